/-! owed: sow, join, shift -/
theorem rc_100 : nI 100 = 100 := by decide +kernel
theorem rc_200 : nI 200 = 200 := by decide +kernel
theorem rc_d0 : ¬ (256 : Int32) = 0 := by decide
theorem rc_dneg {p : Int32} (h : ¬ 0 ≤ p) : p / 256 < 1 := by
  have hp : p.toInt < 0 := by
    have := Int32.not_le.mp h
    rw [Int32.lt_iff_toInt_lt, Int32.toInt_zero] at this
    exact this
  have hl := Int32.le_toInt p
  have h256 : (256 : Int32).toInt = 256 := by decide
  have h1 : (1 : Int32).toInt = 1 := by decide
  have hd : p.toInt.tdiv 256 = -((-p.toInt) / 256) := by
    have e : p.toInt = -(-p.toInt) := by omega
    rw [e, Int.neg_tdiv, Int.tdiv_eq_ediv_of_nonneg (by omega), Int.neg_neg]
  rw [Int32.lt_iff_toInt_lt, Int32.toInt_div, h256, h1, hd, Int.bmod_eq_of_le (by omega) (by omega)]
  omega
theorem i_vc_sow {k : Nat} {u : SX} {v : SY} (I : i_Rel k u v) (hk : k + 4 ≤ 2048) (v1 : Int32) (v2 : Int32) (v3 : Int32) : wpX_sow (fun r u' => wpY_sow (fun r' v' => r' = r ∧ i_Rel (k + 4) u' v') v v1 v2 v3) u v1 v2 v3 := by
  obtain ⟨f, m, t⟩ := u
  obtain ⟨g, a, o⟩ := v
  obtain ⟨e, h⟩ := I
  dsimp only at e h
  have e2 := e.symm
  subst e2
  unfold wpX_sow
  dsimp only
  rcases rc_set v1 with ⟨sx, sy⟩ | ⟨s, hs, rfl, sx, sy⟩
  · refine sx _ (br_t rfl ?_)
    unfold wpY_sow
    dsimp only
    exact sy _ _ _ _ (br_f rc_10 ⟨rfl, rfl, h⟩)
  · refine sx _ (br_f rc_10 ?_)
    rcases rc_num v2 with ⟨nx, ny⟩ | ⟨x, hx, rfl, nx, ny⟩
    · refine nx _ (br_t rfl ?_)
      unfold wpY_sow
      dsimp only
      exact sy _ _ _ _ (br_t rfl (ny _ _ _ _ (br_f rc_10 ⟨rfl, rfl, h⟩)))
    · refine nx _ (br_f rc_10 ?_)
      unfold wpY_sow
      dsimp only
      by_cases h0 : 0 ≤ v3
      · obtain ⟨j, hj, rfl⟩ := nI_of (Int32.not_lt.mpr h0)
        have e1 : nI j / 256 = nI (j / 256) := by rw [← rc_256]; exact pk_div hj (by decide) (by decide)
        have e2 : nI j - nI j / 256 * 256 = nI (j % 256) := by rw [← rc_256]; exact pk_rem hj (by decide) (by decide)
        have hq : j / 256 < 2 ^ 31 := by omega
        have hC : j % 256 < 256 := Nat.mod_lt _ (by decide)
        generalize j / 256 = q at e1 hq
        generalize j % 256 = C at e2 hC
        by_cases q1 : q < 1
        · have z1 : nI q < 1 := nI_lt (b := 1) q1 (by decide)
          exact ⟨rc_d0, nm_r e1 ⟨rc_d0, nm_r e2 (br_t z1 (sy _ _ _ _ (br_t rfl (ny _ _ _ _ (br_t rfl (br_t h0 ⟨rc_d0, nm_r e1 ⟨rc_d0, nm_r e2 (br_t z1 ⟨rfl, rfl, h⟩)⟩⟩))))))⟩⟩
        · have z1 : ¬ nI q < 1 := nI_nlt (b := 1) (by omega) hq
          by_cases q2 : q ≤ 100
          · have z2 : nI q ≤ 100 := by rw [← rc_100]; exact nI_le q2 (by decide)
            by_cases c1 : C < 1
            · have z3 : nI C < 1 := nI_lt (b := 1) c1 (by decide)
              exact ⟨rc_d0, nm_r e1 ⟨rc_d0, nm_r e2 (br_f z1 (br_t z2 (br_t z3 (sy _ _ _ _ (br_t rfl (ny _ _ _ _ (br_t rfl (br_t h0 ⟨rc_d0, nm_r e1 ⟨rc_d0, nm_r e2 (br_f z1 (br_t z2 (br_t z3 ⟨rfl, rfl, h⟩)))⟩⟩))))))))⟩⟩
            · have z3 : ¬ nI C < 1 := nI_nlt (b := 1) (by omega) (by omega)
              by_cases c2 : C ≤ 200
              · have z4 : nI C ≤ 200 := by rw [← rc_200]; exact nI_le c2 (by decide)
                obtain ⟨r, m', a', hR, h1, h2⟩ := rc_sow (t := t) hs hx q2 c2 C 0 (by omega) m a h
                rw [nI_0] at h1 h2
                exact ⟨rc_d0, nm_r e1 ⟨rc_d0, nm_r e2 (br_f z1 (br_t z2 (br_f z3 (br_t z4 (nm_r (rc_bX s) ⟨_, h1 _ g (sy _ _ _ _ (br_t rfl (ny _ _ _ _ (br_t rfl (br_t h0 ⟨rc_d0, nm_r e1 ⟨rc_d0, nm_r e2 (br_f z1 (br_t z2 (br_f z3 (br_t z4 ⟨_, h2 _ g o ⟨rfl, rfl, hR⟩⟩))))⟩⟩)))))⟩)))))⟩⟩
              · have z4 : ¬ nI C ≤ 200 := by rw [← rc_200]; exact nI_ge (by omega) (by omega)
                exact ⟨rc_d0, nm_r e1 ⟨rc_d0, nm_r e2 (br_f z1 (br_t z2 (br_f z3 (br_f z4 (sy _ _ _ _ (br_t rfl (ny _ _ _ _ (br_t rfl (br_t h0 ⟨rc_d0, nm_r e1 ⟨rc_d0, nm_r e2 (br_f z1 (br_t z2 (br_f z3 (br_f z4 ⟨rfl, rfl, h⟩))))⟩⟩)))))))))⟩⟩
          · have z2 : ¬ nI q ≤ 100 := by rw [← rc_100]; exact nI_ge (by omega) hq
            exact ⟨rc_d0, nm_r e1 ⟨rc_d0, nm_r e2 (br_f z1 (br_f z2 (sy _ _ _ _ (br_t rfl (ny _ _ _ _ (br_t rfl (br_t h0 ⟨rc_d0, nm_r e1 ⟨rc_d0, nm_r e2 (br_f z1 (br_f z2 ⟨rfl, rfl, h⟩))⟩⟩)))))))⟩⟩
      · exact ⟨rc_d0, nm_e ⟨rc_d0, nm_e (br_t (rc_dneg h0) (sy _ _ _ _ (br_t rfl (ny _ _ _ _ (br_t rfl (br_f h0 ⟨rfl, rfl, h⟩))))))⟩⟩
theorem i_vc_join {k : Nat} {u : SX} {v : SY} (I : i_Rel k u v) (hk : k + 4 ≤ 2048) (v1 : Int32) (v2 : Int32) (v3 : Int32) : wpX_join (fun r u' => wpY_join (fun r' v' => r' = r ∧ i_Rel (k + 4) u' v') v v1 v2 v3) u v1 v2 v3 := by
  obtain ⟨f, m, t⟩ := u
  obtain ⟨g, a, o⟩ := v
  obtain ⟨e, h⟩ := I
  dsimp only at e h
  have e2 := e.symm
  subst e2
  unfold wpX_join
  dsimp only
  unfold wpY_join
  dsimp only
  by_cases k0 : v1 < 0
  · exact br_t k0 (br_t k0 ⟨rfl, rfl, h⟩)
  · obtain ⟨j, hj, rfl⟩ := nI_of k0
    by_cases hk4 : j < 4
    · have k3 : nI j ≤ 3 := nI_le (b := 3) (by omega) (by decide)
      rcases rc_set v2 with ⟨sx, sy⟩ | ⟨s, hs, rfl, sx, sy⟩
      · exact br_f k0 (br_t k3 (sx _ (br_t rfl (br_f k0 (br_t k3 (sy _ _ _ _ (br_f rc_10 ⟨rfl, rfl, h⟩)))))))
      · rcases rc_set v3 with ⟨qx, qy⟩ | ⟨q, hq, rfl, qx, qy⟩
        · exact br_f k0 (br_t k3 (sx _ (br_f rc_10 (qx _ (br_t rfl (br_f k0 (br_t k3 (sy _ _ _ _ (br_t rfl (qy _ _ _ _ (br_f rc_10 ⟨rfl, rfl, h⟩)))))))))))
        · obtain ⟨r, m', a', hR, h1, h2⟩ := rc_joi (t := t) hk4 hs hq 512 0 rfl m a h
          rw [nI_0] at h1 h2
          exact br_f k0 (br_t k3 (sx _ (br_f rc_10 (qx _ (br_f rc_10 (nm_r (rc_bX s) (nm_r (rc_bX q) ⟨_, h1 _ g (br_f k0 (br_t k3 (sy _ _ _ _ (br_t rfl (qy _ _ _ _ (br_t rfl ⟨_, h2 _ g o ⟨rfl, rfl, hR⟩⟩))))))⟩)))))))
    · have k3 : ¬ nI j ≤ 3 := nI_ge (a := 3) (by omega) hj
      exact br_f k0 (br_f k3 (br_f k0 (br_f k3 ⟨rfl, rfl, h⟩)))
theorem rc_sU {m t a : Nat → Int32} (h : rc_R m t a) {s d : Nat} (hs : s < 3) (hd : 0 < d) (hd2 : d < 512) (o : Nat → Int32) :
    ∃ (r : Int32) (m' a' o' : Nat → Int32), rc_R m' t a' ∧
      (∀ (post : Int32 → SX → Prop) (f : Int32), post r (f, m', t) → wpX_moveUp (fun u => match u with | (f1, m1, t1) => wX_shift_46 post (nI s) f1 m1 t1) (f, m, t) (nI s) (nI d)) ∧
      (∀ (post : Int32 → SY → Prop) (g : Int32), post r (g, a', o') → wY_shift_29 post (nI s) (nI d) g 513 0 a o) := by
  obtain ⟨o', ho, y1⟩ := rc_shO h.2.2 hs (nI d) 512 0 rfl o (fun y hy => absurd hy (Nat.not_lt_zero y))
  obtain ⟨m', hm, x1⟩ := rc_mvU (t := t) h.2.2 hs hd hd2 512 (Nat.le_refl _) m (fun i hi => by
    by_cases l : i < s * 512 + 512
    · rw [if_pos l]; exact h.1 i hi
    · rw [if_neg l, rc_upO (by omega)]; exact h.1 i hi)
  obtain ⟨a', ha, y2⟩ := rc_shI (o := o') (a0 := a) (T := rc_up a (s * 512) d) hs (p := nI d) (fun x hx => by
    by_cases l : x < d
    · exact Or.inl ⟨pk_sneg (by omega) l, rc_upZ hx l⟩
    · exact Or.inr (Or.inr ⟨x - d, by omega, pk_sub (by omega), (rc_upV hx (by omega)).trans (ho _ (by omega)).symm, by rw [ho _ (by omega)]; exact h.2.2 _ (by omega)⟩)) 512 0 rfl a (fun i hi => by rw [if_neg (by omega)])
  have hR : rc_R m' t a' := rc_shR h hs (fun i l => rc_upO l) (fun x hx => by
    by_cases l : x < d
    · rw [rc_upZ hx l]; exact rc_b0
    · rw [rc_upV hx (by omega)]; exact h.2.2 _ (by omega)) hm ha
  obtain ⟨r, c1, c2⟩ := rc_count hR hs
  rw [nI_0] at y1 y2
  rw [rc_e511] at x1
  refine ⟨r, m', a', o', hR, fun post f hp => ?_, fun post g hp => ?_⟩
  · unfold wpX_moveUp
    dsimp only
    exact nm_r (rc_bX s) ⟨513, x1 _ f (c1 (fun r => post r (f, m', t)) f t hp)⟩
  · exact y1 post g ⟨513, y2 post g (c2 (fun r => post r (g, a', o')) g o' hp)⟩
theorem rc_sD {m t a : Nat → Int32} (h : rc_R m t a) {s d : Nat} (hs : s < 3) (hd2 : d < 512) {p : Int32} (hp1 : -p = nI d) (hp2 : ∀ x, nI x - p = nI (x + d)) (o : Nat → Int32) :
    ∃ (r : Int32) (m' a' o' : Nat → Int32), rc_R m' t a' ∧
      (∀ (post : Int32 → SX → Prop) (f : Int32), post r (f, m', t) → wpX_moveDown (fun u => match u with | (f1, m1, t1) => wX_shift_46 post (nI s) f1 m1 t1) (f, m, t) (nI s) (-p)) ∧
      (∀ (post : Int32 → SY → Prop) (g : Int32), post r (g, a', o') → wY_shift_29 post (nI s) p g 513 0 a o) := by
  obtain ⟨o', ho, y1⟩ := rc_shO h.2.2 hs p 512 0 rfl o (fun y hy => absurd hy (Nat.not_lt_zero y))
  obtain ⟨m', hm, x1⟩ := rc_mvD (t := t) (d := d) h.2.2 hs hd2 512 0 rfl m (fun i hi => by
    by_cases l : i < s * 512 + 0
    · rw [if_pos l, rc_dnO (by omega)]; exact h.1 i hi
    · rw [if_neg l]; exact h.1 i hi)
  obtain ⟨a', ha, y2⟩ := rc_shI (o := o') (a0 := a) (T := rc_dn a (s * 512) d) hs (p := p) (fun x hx => by
    rw [hp2 x]
    by_cases l : 512 ≤ x + d
    · exact Or.inr (Or.inl ⟨nI_pos (by omega), rc_ge l (by omega), rc_dnZ hx l⟩)
    · exact Or.inr (Or.inr ⟨x + d, by omega, rfl, (rc_dnV hx (by omega)).trans (ho _ (by omega)).symm, by rw [ho _ (by omega)]; exact h.2.2 _ (by omega)⟩)) 512 0 rfl a (fun i hi => by rw [if_neg (by omega)])
  have hR : rc_R m' t a' := rc_shR h hs (fun i l => rc_dnO l) (fun x hx => by
    by_cases l : 512 ≤ x + d
    · rw [rc_dnZ hx l]; exact rc_b0
    · rw [rc_dnV hx (by omega)]; exact h.2.2 _ (by omega)) hm ha
  obtain ⟨r, c1, c2⟩ := rc_count hR hs
  rw [nI_0] at x1 y1 y2
  refine ⟨r, m', a', o', hR, fun post f hp => ?_, fun post g hp => ?_⟩
  · unfold wpX_moveDown
    dsimp only
    rw [hp1]
    exact nm_r (rc_bX s) ⟨513, x1 _ f (c1 (fun r => post r (f, m', t)) f t hp)⟩
  · exact y1 post g ⟨513, y2 post g (c2 (fun r => post r (g, a', o')) g o' hp)⟩
theorem i_vc_shift {k : Nat} {u : SX} {v : SY} (I : i_Rel k u v) (hk : k + 4 ≤ 2048) (v1 : Int32) (v2 : Int32) : wpX_shift (fun r u' => wpY_shift (fun r' v' => r' = r ∧ i_Rel (k + 4) u' v') v v1 v2) u v1 v2 := by
  obtain ⟨f, m, t⟩ := u
  obtain ⟨g, a, o⟩ := v
  obtain ⟨e, h⟩ := I
  dsimp only at e h
  have e2 := e.symm
  subst e2
  unfold wpX_shift
  dsimp only
  rcases rc_set v1 with ⟨sx, sy⟩ | ⟨s, hs, rfl, sx, sy⟩
  · refine sx _ (br_t rfl ?_)
    unfold wpY_shift
    dsimp only
    exact sy _ _ _ _ (br_f rc_10 ⟨rfl, rfl, h⟩)
  · refine sx _ (br_f rc_10 ?_)
    unfold wpY_shift
    dsimp only
    have l1 : (-512 : Int32).toInt = -512 := by decide
    have l2 : (-511 : Int32).toInt = -511 := by decide
    have l3 : (512 : Int32).toInt = 512 := by decide
    have l4 : (511 : Int32).toInt = 511 := by decide
    by_cases hA : v2 ≤ -512
    · have hA2 : v2 < -511 := by
        rw [Int32.le_iff_toInt_le, l1] at hA
        rw [Int32.lt_iff_toInt_lt, l2]
        omega
      exact br_t hA (sy _ _ _ _ (br_t rfl (br_t hA2 ⟨rfl, rfl, h⟩)))
    · have hA2 : ¬ v2 < -511 := by
        rw [Int32.le_iff_toInt_le, l1] at hA
        rw [Int32.lt_iff_toInt_lt, l2]
        omega
      by_cases hB : v2 < 512
      · have hB2 : v2 ≤ 511 := by
          rw [Int32.lt_iff_toInt_lt, l3] at hB
          rw [Int32.le_iff_toInt_le, l4]
          omega
        by_cases hC : v2 ≤ 0
        · have i1 : -512 < v2.toInt := by
            rw [Int32.le_iff_toInt_le, l1] at hA
            omega
          have i2 : v2.toInt ≤ 0 := by
            rw [Int32.le_iff_toInt_le, Int32.toInt_zero] at hC
            exact hC
          have hp1 : -v2 = nI (-v2.toInt).toNat := by
            apply Int32.toInt_inj.mp
            rw [Int32.toInt_neg, nI_toInt (by omega), Int.bmod_eq_of_le (by omega) (by omega)]
            omega
          obtain ⟨r, m', a', o', hR, h1, h2⟩ := rc_sD h hs (d := (-v2.toInt).toNat) (by omega) hp1 (fun x => by rw [Int32.sub_eq_add_neg, hp1, nI_add]) o
          exact br_f hA (br_t hB (br_t hC (h1 _ g (sy _ _ _ _ (br_t rfl (br_f hA2 (br_t hB2 ⟨513, h2 _ g ⟨rfl, rfl, hR⟩⟩)))))))
        · have h0 : ¬ v2 < 0 := fun q => hC (Int32.le_of_lt q)
          obtain ⟨d, hd, rfl⟩ := nI_of h0
          have hd0 : 0 < d := by
            rcases Nat.eq_zero_or_pos d with z | z
            · exact absurd (by rw [z, nI_0]; decide) hC
            · exact z
          have hd5 : d < 512 := by
            rw [← rc_512] at hB
            exact (nI_ltI hd (by decide)).mp hB
          obtain ⟨r, m', a', o', hR, h1, h2⟩ := rc_sU h hs hd0 hd5 o
          exact br_f hA (br_t hB (br_f hC (h1 _ g (sy _ _ _ _ (br_t rfl (br_f hA2 (br_t hB2 ⟨513, h2 _ g ⟨rfl, rfl, hR⟩⟩)))))))
      · have hB2 : ¬ v2 ≤ 511 := by
          rw [Int32.lt_iff_toInt_lt, l3] at hB
          rw [Int32.le_iff_toInt_le, l4]
          omega
        exact br_f hA (br_f hB (sy _ _ _ _ (br_t rfl (br_f hA2 (br_f hB2 ⟨rfl, rfl, h⟩)))))
