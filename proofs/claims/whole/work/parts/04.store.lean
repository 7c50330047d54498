/-! loops that store, in step -/
theorem rc_b0 : rc_01 0 := Or.inl rfl
theorem rc_b1 : rc_01 1 := Or.inr rfl
theorem rc_uX {m : Nat → Int32} {B x : Nat} (h : B + x < 1536) {w : Int32} (hw : rc_01 w) : upd m (nI B + nI x).toNatClampNeg (vp_nar .boolean w) = upd m (B + x) w := by
  rw [rc_iX h, rc_nar hw]
theorem rc_uY {a : Nat → Int32} {s x : Nat} (h : s * 512 + x < 2048) {w : Int32} (hw : rc_01 w) : upd a (512 * nI s + nI x).toNatClampNeg (vp_nar .boolean w) = upd a (s * 512 + x) w := by
  rw [rc_iY h, rc_nar hw]
theorem rc_sY {s : Nat} (hs : s < 3) {post : Int32 → Prop} {g : Int32} {a o : Nat → Int32} (hp : post 0) : wpY_badSet post (g, a, o) (nI s) :=
  br_f (nI_pos (by omega)) (br_t (nI_le (b := 2) (by omega) (by decide)) hp)
theorem rc_nY {x : Nat} (hx : x < 512) {post : Int32 → Prop} {g : Int32} {a o : Nat → Int32} (hp : post 0) : wpY_badNumber post (g, a, o) (nI x) :=
  br_f (nI_pos (by omega)) (br_t (by rw [← rc_511]; exact nI_le (by omega) (by decide)) hp)
theorem rc_nYb {x : Nat} (hx : 512 ≤ x) (hx2 : x < 2 ^ 31) {post : Int32 → Prop} {g : Int32} {a o : Nat → Int32} (hp : post 1) : wpY_badNumber post (g, a, o) (nI x) :=
  br_f (nI_pos hx2) (br_f (by rw [← rc_511]; exact nI_ge (by omega) hx2) hp)
theorem rc_addY {s x : Nat} (hs : s < 3) (hx : x < 512) {post : Int32 → SY → Prop} {g : Int32} {a o : Nat → Int32}
    (hp : post (if a (s * 512 + x) = 0 then 1 else 0) (g, upd a (s * 512 + x) 1, o)) : wpY_add post (g, a, o) (nI s) (nI x) := by
  have hy : s * 512 + x < 2048 := by omega
  unfold wpY_add
  dsimp only
  refine rc_sY hs (br_t rfl (rc_nY hx (br_t rfl ⟨rc_vY hy, ?_⟩)))
  by_cases z : a (s * 512 + x) = 0
  · rw [if_pos z] at hp
    exact br_t ((rc_ry hy).trans z) ⟨rc_vY hy, nm_r (rc_uY hy rc_b1) hp⟩
  · rw [if_neg z] at hp
    exact br_f (fun q => z ((rc_ry hy).symm.trans q)) ⟨rc_vY hy, nm_r (rc_uY hy rc_b1) hp⟩
theorem rc_addYb {s x : Nat} (hs : s < 3) (hx : 512 ≤ x) (hx2 : x < 2 ^ 31) {post : Int32 → SY → Prop} {g : Int32} {a o : Nat → Int32}
    (hp : post (-2) (g, a, o)) : wpY_add post (g, a, o) (nI s) (nI x) := by
  unfold wpY_add
  dsimp only
  exact rc_sY hs (br_t rfl (rc_nYb hx hx2 (br_f rc_10 hp)))
theorem rc_remY {s x : Nat} (hs : s < 3) (hx : x < 512) {post : Int32 → SY → Prop} {g : Int32} {a o : Nat → Int32}
    (hp : post (if a (s * 512 + x) = 0 then 0 else 1) (g, upd a (s * 512 + x) 0, o)) : wpY_remove post (g, a, o) (nI s) (nI x) := by
  have hy : s * 512 + x < 2048 := by omega
  unfold wpY_remove
  dsimp only
  refine rc_sY hs (br_t rfl (rc_nY hx (br_t rfl ⟨rc_vY hy, ?_⟩)))
  by_cases z : a (s * 512 + x) = 0
  · rw [if_pos z] at hp
    exact br_t ((rc_ry hy).trans z) ⟨rc_vY hy, nm_r (rc_uY hy rc_b0) hp⟩
  · rw [if_neg z] at hp
    exact br_f (fun q => z ((rc_ry hy).symm.trans q)) ⟨rc_vY hy, nm_r (rc_uY hy rc_b0) hp⟩
/-- assign over one number -/
theorem rc_as1 {m t a : Nat → Int32} (h : rc_R m t a) {s x : Nat} (hs : s < 3) (hx : x < 512) {w : Int32} (z : a (s * 512 + x) = w) {post : Int32 → SX → Prop} {f : Int32}
    (hp : post 0 (f, m, t)) : wpX_assign post (f, m, t) (nI s) (nI x) (nI x) w := by
  have hi : s * 512 + x < 1536 := by omega
  have hn : ¬ nI x < nI x := nI_nlt (by omega) (by omega)
  have hg : nI x < nI (x + 1) := nI_lt (by omega) (by omega)
  unfold wpX_assign
  dsimp only
  exact nm_r (rc_bX s) ⟨2, br_f hn ⟨rc_vX hi, br_t ((rc_rd h hi).trans z) (nm_r (nI_1 x) (br_t hg hp))⟩⟩
theorem rc_as2 {m t a : Nat → Int32} (h : rc_R m t a) {s x : Nat} (hs : s < 3) (hx : x < 512) {w : Int32} (hw : rc_01 w) (z : ¬ a (s * 512 + x) = w) {post : Int32 → SX → Prop} {f : Int32}
    (hp : post 1 (f, upd m (s * 512 + x) w, t)) : wpX_assign post (f, m, t) (nI s) (nI x) (nI x) w := by
  have hi : s * 512 + x < 1536 := by omega
  have hn : ¬ nI x < nI x := nI_nlt (by omega) (by omega)
  have hg : nI x < nI (x + 1) := nI_lt (by omega) (by omega)
  unfold wpX_assign
  dsimp only
  exact nm_r (rc_bX s) ⟨2, br_f hn ⟨rc_vX hi, br_f (fun q => z ((rc_rd h hi).symm.trans q)) ⟨rc_vX hi, nm_r (rc_uX hi hw) (nm_r (e' := 1) (by decide) (nm_r (nI_1 x) (br_t hg hp)))⟩⟩⟩
theorem rc_fil {t : Nat → Int32} {s L : Nat} (hs : s < 3) (hL : L < 512) :
    ∀ d x : Nat, x + d = L + 1 → ∀ (c : Int32) (m a : Nat → Int32), rc_R m t a → ∃ (r : Int32) (m' a' : Nat → Int32), rc_R m' t a' ∧
      (∀ (post : Int32 → SX → Prop) (f : Int32), post r (f, m', t) → wX_assign_13 post (nI L) 1 (nI (s * 512)) f (d + 1) c (nI x) m t) ∧
      (∀ (post : Int32 → SY → Prop) (g : Int32) (o : Nat → Int32), post r (g, a', o) → wY_fill_28 post (nI s) (nI L) (d + 1) c (nI x) g a o) := by
  intro d
  induction d with
  | zero =>
    intro x hx c m a h
    have hg : nI L < nI x := nI_lt (by omega) (by omega)
    exact ⟨c, m, a, h, fun _ _ hp => br_t hg hp, fun _ _ _ hp => br_t hg hp⟩
  | succ d ih =>
    intro x hx c m a h
    have hi : s * 512 + x < 1536 := by omega
    have hn : ¬ nI L < nI x := nI_nlt (by omega) (by omega)
    by_cases z : a (s * 512 + x) = 1
    · obtain ⟨r, m', a', hR, h1, h2⟩ := ih (x + 1) (by omega) c m (upd a (s * 512 + x) 1) (rc_R_updY h hi z)
      refine ⟨r, m', a', hR, fun post f hp => br_f hn ⟨rc_vX hi, br_t ((rc_rd h hi).trans z) (nm_r (nI_1 x) (h1 post f hp))⟩, fun post g o hp => br_f hn (rc_addY hs (by omega) ?_)⟩
      exact nm_r (e' := c) (by rw [if_neg (by rw [z]; exact rc_10), Int32.add_zero]) (nm_r (nI_1 x) (h2 post g o hp))
    · obtain ⟨r, m', a', hR, h1, h2⟩ := ih (x + 1) (by omega) (c + 1) (upd m (s * 512 + x) 1) (upd a (s * 512 + x) 1) (rc_R_upd h hi rc_b1)
      refine ⟨r, m', a', hR, fun post f hp => br_f hn ⟨rc_vX hi, br_f (fun q => z ((rc_rd h hi).symm.trans q)) ⟨rc_vX hi, nm_r (rc_uX hi rc_b1) (nm_e (nm_r (nI_1 x) (h1 post f hp)))⟩⟩, fun post g o hp => br_f hn (rc_addY hs (by omega) ?_)⟩
      exact nm_r (e' := c + 1) (by rw [if_pos ((h.2.2 _ (by omega)).resolve_right z)]) (nm_r (nI_1 x) (h2 post g o hp))
theorem rc_clr {t : Nat → Int32} {s L : Nat} (hs : s < 3) (hL : L < 512) :
    ∀ d x : Nat, x + d = L + 1 → ∀ (c : Int32) (m a : Nat → Int32), rc_R m t a → ∃ (r : Int32) (m' a' : Nat → Int32), rc_R m' t a' ∧
      (∀ (post : Int32 → SX → Prop) (f : Int32), post r (f, m', t) → wX_assign_13 post (nI L) 0 (nI (s * 512)) f (d + 1) c (nI x) m t) ∧
      (∀ (post : Int32 → SY → Prop) (g : Int32) (o : Nat → Int32), post r (g, a', o) → wY_clear_28 post (nI s) (nI L) (d + 1) c (nI x) g a o) := by
  intro d
  induction d with
  | zero =>
    intro x hx c m a h
    have hg : nI L < nI x := nI_lt (by omega) (by omega)
    exact ⟨c, m, a, h, fun _ _ hp => br_t hg hp, fun _ _ _ hp => br_t hg hp⟩
  | succ d ih =>
    intro x hx c m a h
    have hi : s * 512 + x < 1536 := by omega
    have hn : ¬ nI L < nI x := nI_nlt (by omega) (by omega)
    by_cases z : a (s * 512 + x) = 0
    · obtain ⟨r, m', a', hR, h1, h2⟩ := ih (x + 1) (by omega) c m (upd a (s * 512 + x) 0) (rc_R_updY h hi z)
      refine ⟨r, m', a', hR, fun post f hp => br_f hn ⟨rc_vX hi, br_t ((rc_rd h hi).trans z) (nm_r (nI_1 x) (h1 post f hp))⟩, fun post g o hp => br_f hn (rc_remY hs (by omega) ?_)⟩
      exact nm_r (e' := c) (by rw [if_pos z, Int32.add_zero]) (nm_r (nI_1 x) (h2 post g o hp))
    · obtain ⟨r, m', a', hR, h1, h2⟩ := ih (x + 1) (by omega) (c + 1) (upd m (s * 512 + x) 0) (upd a (s * 512 + x) 0) (rc_R_upd h hi rc_b0)
      refine ⟨r, m', a', hR, fun post f hp => br_f hn ⟨rc_vX hi, br_f (fun q => z ((rc_rd h hi).symm.trans q)) ⟨rc_vX hi, nm_r (rc_uX hi rc_b0) (nm_e (nm_r (nI_1 x) (h1 post f hp)))⟩⟩, fun post g o hp => br_f hn (rc_remY hs (by omega) ?_)⟩
      exact nm_r (e' := c + 1) (by rw [if_neg z]) (nm_r (nI_1 x) (h2 post g o hp))
theorem rc_flp {t : Nat → Int32} {s L : Nat} (hs : s < 3) (hL : L < 512) :
    ∀ d x : Nat, x + d = L + 1 → ∀ m a : Nat → Int32, rc_R m t a → ∃ (r : Int32) (m' a' : Nat → Int32), rc_R m' t a' ∧
      (∀ (post : Int32 → SX → Prop) (f : Int32), post r (f, m', t) → wX_flip_30 post (nI s) (nI L) (nI (s * 512)) f (d + 1) (nI x) m t) ∧
      (∀ (post : Int32 → SY → Prop) (g : Int32) (o : Nat → Int32), post r (g, a', o) → wY_flip_25 post (nI s) (nI L) g (d + 1) (nI x) a o) := by
  intro d
  induction d with
  | zero =>
    intro x hx m a h
    have hg : nI L < nI x := nI_lt (by omega) (by omega)
    obtain ⟨r, c1, c2⟩ := rc_count h hs
    exact ⟨r, m, a, h, fun post f hp => br_t hg (c1 (fun r => post r (f, m, t)) f t hp), fun post g o hp => br_t hg (c2 (fun r => post r (g, a, o)) g o hp)⟩
  | succ d ih =>
    intro x hx m a h
    have hi : s * 512 + x < 1536 := by omega
    have hy : s * 512 + x < 2048 := by omega
    have hn : ¬ nI L < nI x := nI_nlt (by omega) (by omega)
    by_cases z : a (s * 512 + x) = 0
    · obtain ⟨r, m', a', hR, h1, h2⟩ := ih (x + 1) (by omega) (upd m (s * 512 + x) 1) (upd a (s * 512 + x) 1) (rc_R_upd h hi rc_b1)
      exact ⟨r, m', a', hR, fun post f hp => br_f hn ⟨rc_vX hi, br_t ((rc_rd h hi).trans z) ⟨rc_vX hi, nm_r (rc_uX hi rc_b1) (nm_r (nI_1 x) (h1 post f hp))⟩⟩,
        fun post g o hp => br_f hn ⟨rc_vY hy, br_t ((rc_ry hy).trans z) ⟨rc_vY hy, nm_r (rc_uY hy rc_b1) (nm_r (nI_1 x) (h2 post g o hp))⟩⟩⟩
    · obtain ⟨r, m', a', hR, h1, h2⟩ := ih (x + 1) (by omega) (upd m (s * 512 + x) 0) (upd a (s * 512 + x) 0) (rc_R_upd h hi rc_b0)
      exact ⟨r, m', a', hR, fun post f hp => br_f hn ⟨rc_vX hi, br_f (fun q => z ((rc_rd h hi).symm.trans q)) ⟨rc_vX hi, nm_r (rc_uX hi rc_b0) (nm_r (nI_1 x) (h1 post f hp))⟩⟩,
        fun post g o hp => br_f hn ⟨rc_vY hy, br_f (fun q => z ((rc_ry hy).symm.trans q)) ⟨rc_vY hy, nm_r (rc_uY hy rc_b0) (nm_r (nI_1 x) (h2 post g o hp))⟩⟩⟩
theorem rc_sow {t : Nat → Int32} {s p q C : Nat} (hs : s < 3) (hp : p < 512) (hq : q ≤ 100) (hC : C ≤ 200) :
    ∀ d x : Nat, x + d = C → ∀ m a : Nat → Int32, rc_R m t a → ∃ (r : Int32) (m' a' : Nat → Int32), rc_R m' t a' ∧
      (∀ (post : Int32 → SX → Prop) (f : Int32), post r (f, m', t) → wX_sow_76 post (nI s) (nI p) (nI q) (nI C) (nI (s * 512)) f (d + 1) (nI x) m t) ∧
      (∀ (post : Int32 → SY → Prop) (g : Int32) (o : Nat → Int32), post r (g, a', o) → wY_sow_78 post (nI s) (nI p) (nI q) (nI C) (d + 1) (nI x) g a o) := by
  intro d
  induction d with
  | zero =>
    intro x hx m a h
    have hg : nI C ≤ nI x := nI_le (by omega) (by omega)
    obtain ⟨r, c1, c2⟩ := rc_count h hs
    exact ⟨r, m, a, h, fun post f hp => br_t hg (c1 (fun r => post r (f, m, t)) f t hp), fun post g o hp => br_t hg (c2 (fun r => post r (g, a, o)) g o hp)⟩
  | succ d ih =>
    intro x hx m a h
    have hb : x * q ≤ 200 * 100 := Nat.mul_le_mul (by omega) hq
    have ey : nI p + nI x * nI q = nI (p + x * q) := by rw [pk_mul, nI_add]
    have hn : ¬ nI C ≤ nI x := nI_ge (by omega) (by omega)
    have hy31 : p + x * q < 2 ^ 31 := by omega
    generalize p + x * q = y at ey hy31
    by_cases z : y < 512
    · have hi : s * 512 + y < 1536 := by omega
      obtain ⟨r, m', a', hR, h1, h2⟩ := ih (x + 1) (by omega) (upd m (s * 512 + y) 1) (upd a (s * 512 + y) 1) (rc_R_upd h hi rc_b1)
      refine ⟨r, m', a', hR, fun post f hp => br_f hn (nm_r ey (br_f (rc_lt z) ⟨rc_vX hi, nm_r (rc_uX hi rc_b1) (nm_r (nI_1 x) (h1 post f hp))⟩)), fun post g o hp => br_f hn ?_⟩
      rw [ey]
      refine rc_addY hs z ?_
      exact nm_r (nI_1 x) (h2 post g o hp)
    · obtain ⟨r, m', a', hR, h1, h2⟩ := ih (x + 1) (by omega) m a h
      refine ⟨r, m', a', hR, fun post f hp => br_f hn (nm_r ey (br_t (rc_ge (by omega) hy31) (nm_r (nI_1 x) (h1 post f hp)))), fun post g o hp => br_f hn ?_⟩
      rw [ey]
      refine rc_addYb hs (by omega) hy31 ?_
      exact nm_r (nI_1 x) (h2 post g o hp)
theorem rc_joi {t : Nat → Int32} {k s q : Nat} (hk : k < 4) (hs : s < 3) (hq : q < 3) :
    ∀ d x : Nat, x + d = 512 → ∀ m a : Nat → Int32, rc_R m t a → ∃ (r : Int32) (m' a' : Nat → Int32), rc_R m' t a' ∧
      (∀ (post : Int32 → SX → Prop) (f : Int32), post r (f, m', t) → wX_join_45 post (nI k) (nI s) (nI (s * 512)) (nI (q * 512)) f (d + 1) (nI x) m t) ∧
      (∀ (post : Int32 → SY → Prop) (g : Int32) (o : Nat → Int32), post r (g, a', o) → wY_join_33 post (nI k) (nI s) (nI q) g (d + 1) (nI x) a o) := by
  intro d
  induction d with
  | zero =>
    intro x hx m a h
    have hg : (512 : Int32) ≤ nI x := rc_ge (by omega) (by omega)
    obtain ⟨r, c1, c2⟩ := rc_count h hs
    exact ⟨r, m, a, h, fun post f hp => br_t hg (c1 (fun r => post r (f, m, t)) f t hp), fun post g o hp => br_t hg (c2 (fun r => post r (g, a, o)) g o hp)⟩
  | succ d ih =>
    intro x hx m a h
    have hi : s * 512 + x < 1536 := by omega
    have hy : s * 512 + x < 2048 := by omega
    have hj : q * 512 + x < 1536 := by omega
    have hw : q * 512 + x < 2048 := by omega
    have h5 : ¬ (512 : Int32) ≤ nI x := rc_lt (by omega)
    have h01 := rc_jn01 k (a (s * 512 + x)) (a (q * 512 + x))
    obtain ⟨r, m', a', hR, h1, h2⟩ := ih (x + 1) (by omega) (upd m (s * 512 + x) (rc_jn k (a (s * 512 + x)) (a (q * 512 + x)))) (upd a (s * 512 + x) (rc_jn k (a (s * 512 + x)) (a (q * 512 + x)))) (rc_R_upd h hi h01)
    refine ⟨r, m', a', hR, fun post f hp => br_f h5 ⟨rc_vX hi, nm_r (rc_rd h hi) ⟨rc_vX hj, nm_r (rc_rd h hj) (rc_jX hk ⟨rc_vX hi, nm_r (rc_uX hi h01) (nm_r (nI_1 x) (h1 post f hp))⟩)⟩⟩,
      fun post g o hp => br_f h5 ⟨rc_vY hy, rc_vY hw, ?_⟩⟩
    rw [rc_ry (a := a) hy, rc_ry (a := a) hw]
    exact rc_jY hk ⟨rc_vY hy, nm_r (rc_uY hy h01) (nm_r (nI_1 x) (h2 post g o hp))⟩
theorem rc_wri {m : Nat → Int32} {s : Nat} (hs : s < 3) :
    ∀ d x : Nat, x + d = 512 → ∀ t a : Nat → Int32, rc_R m t a → ∃ t' a' : Nat → Int32, rc_R m t' a' ∧
      (∀ (post : Int32 → SX → Prop) (f : Int32), post 0 (1, m, t') → wX_write_17 post (nI (s * 512)) f (d + 1) (nI x) m t) ∧
      (∀ (post : SY → Prop) (g : Int32) (o : Nat → Int32), post (g, a', o) → wY_copy_2 post (nI s) 3 g (d + 1) (nI x) a o) := by
  intro d
  induction d with
  | zero =>
    intro x hx t a h
    have hg : (512 : Int32) ≤ nI x := rc_ge (by omega) (by omega)
    exact ⟨t, a, h, fun _ _ hp => br_t hg hp, fun _ _ _ hp => br_t hg hp⟩
  | succ d ih =>
    intro x hx t a h
    have hi : s * 512 + x < 1536 := by omega
    have hy : s * 512 + x < 2048 := by omega
    have hx5 : x < 512 := by omega
    have h5 : ¬ (512 : Int32) ≤ nI x := rc_lt hx5
    have h01 := h.2.2 _ hy
    obtain ⟨t', a', hR, h1, h2⟩ := ih (x + 1) (by omega) (upd t x (a (s * 512 + x))) (upd a (1536 + x) (a (s * 512 + x))) (rc_R_updT h hx5 h01)
    exact ⟨t', a', hR, fun post f hp => br_f h5 ⟨rc_vX hi, vp_in_nI hx5 (by decide), nm_r (by rw [rc_rd h hi, rc_nar h01, nI_clamp (by omega)]) (nm_r (nI_1 x) (h1 post f hp))⟩,
      fun post g o hp => br_f h5 ⟨rc_vY hy, rc_v3 hx5, nm_r (by rw [rc_i3 hx5, rc_ry (a := a) hy, rc_nar h01]) (nm_r (nI_1 x) (h2 post g o hp))⟩⟩
theorem rc_rea {t : Nat → Int32} {s : Nat} (hs : s < 3) :
    ∀ d x : Nat, x + d = 512 → ∀ m a : Nat → Int32, rc_R m t a → ∃ (r : Int32) (m' a' : Nat → Int32), rc_R m' t a' ∧
      (∀ (post : Int32 → SX → Prop) (f : Int32), post r (f, m', t) → wX_read_27 post (nI s) (nI (s * 512)) f (d + 1) (nI x) m t) ∧
      (∀ (post : SY → Prop) (g : Int32) (o : Nat → Int32), post (g, a', o) → wY_copy_2 post 3 (nI s) g (d + 1) (nI x) a o) ∧
      (∀ (post : Int32 → Prop) (g : Int32) (o : Nat → Int32), post r → wpY_many post (g, a', o) (nI s)) := by
  intro d
  induction d with
  | zero =>
    intro x hx m a h
    have hg : (512 : Int32) ≤ nI x := rc_ge (by omega) (by omega)
    obtain ⟨r, c1, c2⟩ := rc_count h hs
    exact ⟨r, m, a, h, fun post f hp => br_t hg (c1 (fun r => post r (f, m, t)) f t hp), fun post g o hp => br_t hg hp, c2⟩
  | succ d ih =>
    intro x hx m a h
    have hi : s * 512 + x < 1536 := by omega
    have hy : s * 512 + x < 2048 := by omega
    have hx5 : x < 512 := by omega
    have h5 : ¬ (512 : Int32) ≤ nI x := rc_lt hx5
    have h01 := h.2.2 (1536 + x) (by omega)
    obtain ⟨r, m', a', hR, h1, h2, h3⟩ := ih (x + 1) (by omega) (upd m (s * 512 + x) (a (1536 + x))) (upd a (s * 512 + x) (a (1536 + x))) (rc_R_upd h hi h01)
    exact ⟨r, m', a', hR, fun post f hp => br_f h5 ⟨vp_in_nI hx5 (by decide), rc_vX hi, nm_r (by rw [nI_clamp (by omega), h.2.1 x hx5, rc_uX hi h01]) (nm_r (nI_1 x) (h1 post f hp))⟩,
      fun post g o hp => br_f h5 ⟨rc_v3 hx5, rc_vY hy, nm_r (by rw [rc_i3 hx5, rc_uY hy h01]) (nm_r (nI_1 x) (h2 post g o hp))⟩, h3⟩
