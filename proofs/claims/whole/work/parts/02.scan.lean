/-! loops that only read, in step: one answer for both sides -/
theorem rc_cnt {m t a : Nat → Int32} (h : rc_R m t a) {s : Nat} (hs : s < 3) (E : Nat) (hE : E ≤ 512) (e p : Int32)
    (he1 : ∀ x, x < E → ¬ e ≤ nI x) (he2 : e ≤ nI E) (hp1 : ∀ x, x < E → ¬ p ≤ nI x) (hp2 : E = 512 ∨ p ≤ nI E) :
    ∀ d x : Nat, x + d = E → ∀ c : Int32, ∃ r : Int32,
      (∀ (post : Int32 → Prop) (f : Int32) (t : Nat → Int32), post r → wX_countBelow_28 post (nI (s * 512)) e f m t (d + 1) c (nI x)) ∧
      (∀ (post : Int32 → Prop) (g : Int32) (o : Nat → Int32), post r → wY_rank_15 post (nI s) p g a o (d + 1) c (nI x)) := by
  intro d
  induction d with
  | zero =>
    intro x hx c
    have hx : x = E := by omega
    subst hx
    refine ⟨c, fun _ _ _ hp => br_t he2 hp, fun _ _ _ hp => ?_⟩
    by_cases z : 512 ≤ x
    · exact br_t (rc_ge z (by omega)) hp
    · exact br_f (rc_lt (by omega)) (br_t (hp2.resolve_left (by omega)) hp)
  | succ d ih =>
    intro x hx c
    have hi : s * 512 + x < 1536 := by omega
    have hy : s * 512 + x < 2048 := by omega
    have h5 : ¬ (512 : Int32) ≤ nI x := rc_lt (by omega)
    have hX := he1 x (by omega)
    have hY := hp1 x (by omega)
    by_cases z : a (s * 512 + x) = 0
    · obtain ⟨r, h1, h2⟩ := ih (x + 1) (by omega) c
      exact ⟨r, fun post f t hp => br_f hX ⟨rc_vX hi, br_t ((rc_rd h hi).trans z) (nm_r (nI_1 x) (h1 post f t hp))⟩,
        fun post g o hp => br_f h5 (br_f hY ⟨rc_vY hy, br_t ((rc_ry hy).trans z) (nm_r (nI_1 x) (h2 post g o hp))⟩)⟩
    · obtain ⟨r, h1, h2⟩ := ih (x + 1) (by omega) (c + 1)
      exact ⟨r, fun post f t hp => br_f hX ⟨rc_vX hi, br_f (fun q => z ((rc_rd h hi).symm.trans q)) (nm_e (nm_r (nI_1 x) (h1 post f t hp)))⟩,
        fun post g o hp => br_f h5 (br_f hY ⟨rc_vY hy, br_f (fun q => z ((rc_ry hy).symm.trans q)) (nm_e (nm_r (nI_1 x) (h2 post g o hp)))⟩)⟩
theorem rc_cnM {m t a : Nat → Int32} (h : rc_R m t a) {s : Nat} (hs : s < 3) :
    ∀ d x : Nat, x + d = 512 → ∀ c : Int32, ∃ r : Int32,
      (∀ (post : Int32 → Prop) (f : Int32) (t : Nat → Int32), post r → wX_countBelow_28 post (nI (s * 512)) 512 f m t (d + 1) c (nI x)) ∧
      (∀ (post : Int32 → Prop) (g : Int32) (o : Nat → Int32), post r → wY_many_4 post (nI s) g a o (d + 1) c (nI x)) := by
  intro d
  induction d with
  | zero =>
    intro x hx c
    have hg : (512 : Int32) ≤ nI x := rc_ge (by omega) (by omega)
    exact ⟨c, fun _ _ _ hp => br_t hg hp, fun _ _ _ hp => br_t hg hp⟩
  | succ d ih =>
    intro x hx c
    have hi : s * 512 + x < 1536 := by omega
    have hy : s * 512 + x < 2048 := by omega
    have h5 : ¬ (512 : Int32) ≤ nI x := rc_lt (by omega)
    by_cases z : a (s * 512 + x) = 0
    · obtain ⟨r, h1, h2⟩ := ih (x + 1) (by omega) c
      exact ⟨r, fun post f t hp => br_f h5 ⟨rc_vX hi, br_t ((rc_rd h hi).trans z) (nm_r (nI_1 x) (h1 post f t hp))⟩,
        fun post g o hp => br_f h5 ⟨rc_vY hy, br_t ((rc_ry hy).trans z) (nm_r (nI_1 x) (h2 post g o hp))⟩⟩
    · obtain ⟨r, h1, h2⟩ := ih (x + 1) (by omega) (c + 1)
      exact ⟨r, fun post f t hp => br_f h5 ⟨rc_vX hi, br_f (fun q => z ((rc_rd h hi).symm.trans q)) (nm_e (nm_r (nI_1 x) (h1 post f t hp)))⟩,
        fun post g o hp => br_f h5 ⟨rc_vY hy, br_f (fun q => z ((rc_ry hy).symm.trans q)) (nm_e (nm_r (nI_1 x) (h2 post g o hp)))⟩⟩
/-- how many a set has: countBelow(set, 512) and many(set) -/
theorem rc_count {m t a : Nat → Int32} (h : rc_R m t a) {s : Nat} (hs : s < 3) : ∃ r : Int32,
      (∀ (post : Int32 → Prop) (f : Int32) (t : Nat → Int32), post r → wpX_countBelow post (f, m, t) (nI s) 512) ∧
      (∀ (post : Int32 → Prop) (g : Int32) (o : Nat → Int32), post r → wpY_many post (g, a, o) (nI s)) := by
  obtain ⟨r, h1, h2⟩ := rc_cnM h hs 512 0 rfl 0
  rw [nI_0] at h1 h2
  refine ⟨r, fun post f t hp => ?_, fun post g o hp => ?_⟩
  · unfold wpX_countBelow
    dsimp only
    exact nm_r (rc_bX s) (br_t (by decide) ⟨_, h1 post f t hp⟩)
  · unfold wpY_many
    dsimp only
    exact ⟨_, h2 post g o hp⟩
theorem rc_sel {m t a : Nat → Int32} (h : rc_R m t a) {s : Nat} (hs : s < 3) (k : Int32) :
    ∀ d x : Nat, x + d = 512 → ∀ c : Int32, ∃ r : Int32,
      (∀ (post : Int32 → Prop) (f : Int32) (t : Nat → Int32), post r → wX_select_28 post k (nI (s * 512)) f m t (d + 1) c (nI x)) ∧
      (∀ (post : Int32 → Prop) (g : Int32) (o : Nat → Int32), post r → wY_select_15 post (nI s) k g a o (d + 1) c (nI x)) := by
  intro d
  induction d with
  | zero =>
    intro x hx c
    have hg : (512 : Int32) ≤ nI x := rc_ge (by omega) (by omega)
    exact ⟨-2, fun _ _ _ hp => br_t hg hp, fun _ _ _ hp => br_t hg hp⟩
  | succ d ih =>
    intro x hx c
    have hi : s * 512 + x < 1536 := by omega
    have hy : s * 512 + x < 2048 := by omega
    have h5 : ¬ (512 : Int32) ≤ nI x := rc_lt (by omega)
    by_cases z : a (s * 512 + x) = 0
    · obtain ⟨r, h1, h2⟩ := ih (x + 1) (by omega) c
      exact ⟨r, fun post f t hp => br_f h5 ⟨rc_vX hi, br_t ((rc_rd h hi).trans z) (nm_r (nI_1 x) (h1 post f t hp))⟩,
        fun post g o hp => br_f h5 ⟨rc_vY hy, br_t ((rc_ry hy).trans z) (nm_r (nI_1 x) (h2 post g o hp))⟩⟩
    · by_cases e : c = k
      · exact ⟨nI x, fun post f t hp => br_f h5 ⟨rc_vX hi, br_f (fun q => z ((rc_rd h hi).symm.trans q)) (br_t e hp)⟩,
          fun post g o hp => br_f h5 ⟨rc_vY hy, br_f (fun q => z ((rc_ry hy).symm.trans q)) (br_t e hp)⟩⟩
      · obtain ⟨r, h1, h2⟩ := ih (x + 1) (by omega) (c + 1)
        exact ⟨r, fun post f t hp => br_f h5 ⟨rc_vX hi, br_f (fun q => z ((rc_rd h hi).symm.trans q)) (br_f e (nm_e (nm_r (nI_1 x) (h1 post f t hp))))⟩,
          fun post g o hp => br_f h5 ⟨rc_vY hy, br_f (fun q => z ((rc_ry hy).symm.trans q)) (br_f e (nm_e (nm_r (nI_1 x) (h2 post g o hp))))⟩⟩
theorem rc_selN {a : Nat → Int32} {s : Nat} (hs : s < 3) {k : Int32} (hk : k < 0) (post : Int32 → Prop) (g : Int32) (o : Nat → Int32) (hp : post (-2)) :
    ∀ d x : Nat, x + d = 512 → ∀ c : Nat, c ≤ x → wY_select_15 post (nI s) k g a o (d + 1) (nI c) (nI x) := by
  intro d
  induction d with
  | zero =>
    intro x hx c hc
    exact br_t (rc_ge (by omega) (by omega)) hp
  | succ d ih =>
    intro x hx c hc
    have hy : s * 512 + x < 2048 := by omega
    have h5 : ¬ (512 : Int32) ≤ nI x := rc_lt (by omega)
    have e : ¬ nI c = k := fun q => nI_pos (n := c) (by omega) (by rw [q]; exact hk)
    by_cases z : a (s * 512 + x) = 0
    · exact br_f h5 ⟨rc_vY hy, br_t ((rc_ry hy).trans z) (nm_r (nI_1 x) (ih (x + 1) (by omega) c (by omega)))⟩
    · exact br_f h5 ⟨rc_vY hy, br_f (fun q => z ((rc_ry hy).symm.trans q)) (br_f e (nm_r (nI_1 c) (nm_r (nI_1 x) (ih (x + 1) (by omega) (c + 1) (by omega)))))⟩
theorem rc_nxt {m t a : Nat → Int32} (h : rc_R m t a) {s : Nat} (hs : s < 3) (p : Int32) :
    ∀ d x : Nat, x + d = 512 → (∀ y, x ≤ y → y < 512 → ¬ nI y < p) → ∃ r : Int32,
      (∀ (post : Int32 → Prop) (f : Int32) (t : Nat → Int32), post r → wX_next_30 post (nI (s * 512)) f m t (d + 1) (nI x)) ∧
      (∀ (post : Int32 → Prop) (g : Int32) (o : Nat → Int32), post r → wY_next_12 post (nI s) p g a o (d + 1) (nI x)) := by
  intro d
  induction d with
  | zero =>
    intro x hx _
    have hg : (512 : Int32) ≤ nI x := rc_ge (by omega) (by omega)
    exact ⟨-2, fun _ _ _ hp => br_t hg hp, fun _ _ _ hp => br_t hg hp⟩
  | succ d ih =>
    intro x hx hn
    have hi : s * 512 + x < 1536 := by omega
    have hy : s * 512 + x < 2048 := by omega
    have h5 : ¬ (512 : Int32) ≤ nI x := rc_lt (by omega)
    have h6 := hn x (by omega) (by omega)
    by_cases z : a (s * 512 + x) = 0
    · obtain ⟨r, h1, h2⟩ := ih (x + 1) (by omega) (fun y h1 h2 => hn y (by omega) h2)
      exact ⟨r, fun post f t hp => br_f h5 ⟨rc_vX hi, br_t ((rc_rd h hi).trans z) (nm_r (nI_1 x) (h1 post f t hp))⟩,
        fun post g o hp => br_f h5 (br_f h6 ⟨rc_vY hy, br_t ((rc_ry hy).trans z) (nm_r (nI_1 x) (h2 post g o hp))⟩)⟩
    · exact ⟨nI x, fun post f t hp => br_f h5 ⟨rc_vX hi, br_f (fun q => z ((rc_rd h hi).symm.trans q)) hp⟩,
        fun post g o hp => br_f h5 (br_f h6 ⟨rc_vY hy, br_f (fun q => z ((rc_ry hy).symm.trans q)) hp⟩)⟩
theorem rc_nxS {a : Nat → Int32} {s : Nat} (p : Int32) (E : Nat) (hE : E ≤ 512) (hp : ∀ y, y < E → nI y < p) (post : Int32 → Prop) (g : Int32) (o : Nat → Int32) (n : Nat)
    (hw : wY_next_12 post (nI s) p g a o n (nI E)) : ∀ d x : Nat, x + d = E → wY_next_12 post (nI s) p g a o (n + d) (nI x) := by
  intro d
  induction d with
  | zero =>
    intro x hx
    have hx : x = E := by omega
    subst hx
    exact hw
  | succ d ih =>
    intro x hx
    exact br_f (rc_lt (by omega)) (br_t (hp x (by omega)) (nm_r (nI_1 x) (ih (x + 1) (by omega))))
theorem rc_neg : nI 0 + (-1) < 0 := by decide +kernel
theorem rc_prv {m t a : Nat → Int32} (h : rc_R m t a) {s : Nat} (hs : s < 3) (p : Int32) :
    ∀ k : Nat, k ≤ 512 → (∀ y, y < k → ¬ p < nI y) → ∃ r : Int32,
      (∀ (post : Int32 → Prop) (f : Int32) (t : Nat → Int32), post r → wX_previous_35 post (nI (s * 512)) f m t (k + 1) (nI k + (-1))) ∧
      (∀ (post : Int32 → Prop) (g : Int32) (o : Nat → Int32), post r → wY_previous_14 post (nI s) p g a o (k + 1) (nI k + (-1))) := by
  intro k
  induction k with
  | zero =>
    intro _ _
    exact ⟨-2, fun _ _ _ hp => br_t rc_neg hp, fun _ _ _ hp => br_t rc_neg hp⟩
  | succ x ih =>
    intro hx hn
    have hi : s * 512 + x < 1536 := by omega
    have hy : s * 512 + x < 2048 := by omega
    have h5 : ¬ nI x < 0 := nI_pos (by omega)
    have h6 := hn x (by omega)
    rw [pk_m1]
    by_cases z : a (s * 512 + x) = 0
    · obtain ⟨r, h1, h2⟩ := ih (by omega) (fun y h1 => hn y (by omega))
      exact ⟨r, fun post f t hp => br_f h5 ⟨rc_vX hi, br_t ((rc_rd h hi).trans z) (nm_e (h1 post f t hp))⟩,
        fun post g o hp => br_f h5 (br_f h6 ⟨rc_vY hy, br_t ((rc_ry hy).trans z) (nm_e (h2 post g o hp))⟩)⟩
    · exact ⟨nI x, fun post f t hp => br_f h5 ⟨rc_vX hi, br_f (fun q => z ((rc_rd h hi).symm.trans q)) hp⟩,
        fun post g o hp => br_f h5 (br_f h6 ⟨rc_vY hy, br_f (fun q => z ((rc_ry hy).symm.trans q)) hp⟩)⟩
theorem rc_pvS {a : Nat → Int32} {s : Nat} (p : Int32) (J : Nat) (hp : ∀ y, J ≤ y → y < 512 → p < nI y) (post : Int32 → Prop) (g : Int32) (o : Nat → Int32) (n : Nat)
    (hw : wY_previous_14 post (nI s) p g a o n (nI J + (-1))) : ∀ d : Nat, J + d ≤ 512 → wY_previous_14 post (nI s) p g a o (n + d) (nI (J + d) + (-1)) := by
  intro d
  induction d with
  | zero => intro _; exact hw
  | succ d ih =>
    intro hd
    rw [← Nat.add_assoc J d 1, pk_m1]
    exact br_f (nI_pos (by omega)) (br_t (hp (J + d) (by omega) (by omega)) (nm_e (ih (by omega))))
theorem rc_gap {m t a : Nat → Int32} (h : rc_R m t a) {s : Nat} (hs : s < 3) :
    ∀ d x : Nat, x + d = 512 → ∃ r : Int32,
      (∀ (post : Int32 → Prop) (f : Int32) (t : Nat → Int32), post r → wX_gap_28 post (nI (s * 512)) f m t (d + 1) (nI x)) ∧
      (∀ (post : Int32 → Prop) (g : Int32) (o : Nat → Int32), post r → wY_gap_23 post (nI s) g a o (d + 1) (nI x)) := by
  intro d
  induction d with
  | zero =>
    intro x hx
    have hg : (512 : Int32) ≤ nI x := rc_ge (by omega) (by omega)
    exact ⟨-3, fun _ _ _ hp => br_t hg hp, fun _ _ _ hp => br_t hg hp⟩
  | succ d ih =>
    intro x hx
    have hi : s * 512 + x < 1536 := by omega
    have hy : s * 512 + x < 2048 := by omega
    have h5 : ¬ (512 : Int32) ≤ nI x := rc_lt (by omega)
    by_cases z : a (s * 512 + x) = 0
    · exact ⟨nI x, fun post f t hp => br_f h5 ⟨rc_vX hi, br_t ((rc_rd h hi).trans z) hp⟩,
        fun post g o hp => br_f h5 ⟨rc_vY hy, br_t ((rc_ry hy).trans z) hp⟩⟩
    · obtain ⟨r, h1, h2⟩ := ih (x + 1) (by omega)
      exact ⟨r, fun post f t hp => br_f h5 ⟨rc_vX hi, br_f (fun q => z ((rc_rd h hi).symm.trans q)) (nm_r (nI_1 x) (h1 post f t hp))⟩,
        fun post g o hp => br_f h5 ⟨rc_vY hy, br_f (fun q => z ((rc_ry hy).symm.trans q)) (nm_r (nI_1 x) (h2 post g o hp))⟩⟩
