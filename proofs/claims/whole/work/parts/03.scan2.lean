/-! runs, and two sets held against each other -/
theorem rc_run {m t a : Nat → Int32} (h : rc_R m t a) {s : Nat} (hs : s < 3) :
    ∀ d x : Nat, x + d = 512 → ∀ c b : Int32, ((x = 0 ∧ b = 0) ∨ (∃ y, x = y + 1 ∧ b = a (s * 512 + y))) → ∃ r : Int32,
      (∀ (post : Int32 → Prop) (f : Int32) (t : Nat → Int32), post r → wX_runs_23 post (nI (s * 512)) f m t (d + 1) c b (nI x)) ∧
      (∀ (post : Int32 → Prop) (g : Int32) (o : Nat → Int32), post r → wY_runs_14 post (nI s) g a o (d + 1) c (nI x)) := by
  intro d
  induction d with
  | zero =>
    intro x hx c b _
    have hg : (512 : Int32) ≤ nI x := rc_ge (by omega) (by omega)
    exact ⟨c, fun _ _ _ hp => br_t hg hp, fun _ _ _ hp => br_t hg hp⟩
  | succ d ih =>
    intro x hx c b hb
    have hi : s * 512 + x < 1536 := by omega
    have hy : s * 512 + x < 2048 := by omega
    have h5 : ¬ (512 : Int32) ≤ nI x := rc_lt (by omega)
    by_cases z : a (s * 512 + x) = 0
    · obtain ⟨r, h1, h2⟩ := ih (x + 1) (by omega) c (a (s * 512 + x)) (Or.inr ⟨x, rfl, rfl⟩)
      exact ⟨r, fun post f t hp => br_f h5 ⟨rc_vX hi, nm_r (rc_rd h hi) (br_t z (nm_r (nI_1 x) (h1 post f t hp)))⟩,
        fun post g o hp => br_f h5 ⟨rc_vY hy, br_t ((rc_ry hy).trans z) (nm_r (nI_1 x) (h2 post g o hp))⟩⟩
    · have zy : ¬ a (512 * nI s + nI x).toNatClampNeg = 0 := fun q => z ((rc_ry hy).symm.trans q)
      rcases hb with ⟨e0, eb⟩ | ⟨y, e1, eb⟩
      · obtain ⟨r, h1, h2⟩ := ih (x + 1) (by omega) (c + 1) (a (s * 512 + x)) (Or.inr ⟨x, rfl, rfl⟩)
        have x0 : nI x = 0 := by rw [e0, nI_0]
        exact ⟨r, fun post f t hp => br_f h5 ⟨rc_vX hi, nm_r (rc_rd h hi) (br_f z (br_t eb (nm_e (nm_r (nI_1 x) (h1 post f t hp)))))⟩,
          fun post g o hp => br_f h5 ⟨rc_vY hy, br_f zy (br_t x0 (nm_e (nm_r (nI_1 x) (h2 post g o hp))))⟩⟩
      · have x0 : ¬ nI x = 0 := nI_ne0 (by omega) (by omega)
        have ei : (512 * nI s + nI x) - 1 = nI (s * 512 + y) := by rw [rc_bY, e1]; exact nI_pred _
        have hv : vp_in ((512 * nI s + nI x) - 1) 2048 := by rw [ei]; exact vp_in_nI (by omega) (by decide)
        have er : a ((512 * nI s + nI x) - 1).toNatClampNeg = b := by rw [ei, nI_clamp (by omega), eb]
        by_cases zb : b = 0
        · obtain ⟨r, h1, h2⟩ := ih (x + 1) (by omega) (c + 1) (a (s * 512 + x)) (Or.inr ⟨x, rfl, rfl⟩)
          exact ⟨r, fun post f t hp => br_f h5 ⟨rc_vX hi, nm_r (rc_rd h hi) (br_f z (br_t zb (nm_e (nm_r (nI_1 x) (h1 post f t hp)))))⟩,
            fun post g o hp => br_f h5 ⟨rc_vY hy, br_f zy (br_f x0 ⟨hv, br_t (er.trans zb) (nm_e (nm_r (nI_1 x) (h2 post g o hp)))⟩)⟩⟩
        · obtain ⟨r, h1, h2⟩ := ih (x + 1) (by omega) c (a (s * 512 + x)) (Or.inr ⟨x, rfl, rfl⟩)
          exact ⟨r, fun post f t hp => br_f h5 ⟨rc_vX hi, nm_r (rc_rd h hi) (br_f z (br_f zb (nm_r (nI_1 x) (h1 post f t hp))))⟩,
            fun post g o hp => br_f h5 ⟨rc_vY hy, br_f zy (br_f x0 ⟨hv, br_f (fun q => zb (er.symm.trans q)) (nm_r (nI_1 x) (h2 post g o hp))⟩)⟩⟩
/-- what join stores: 0 both, 1 either, 2 just one, 3 left only -/
def rc_jn (k : Nat) (x y : Int32) : Int32 :=
  if k = 0 then (if x = 0 then 0 else if y = 0 then 0 else 1)
  else if k = 1 then (if x = 0 then (if y = 0 then 0 else 1) else 1)
  else if k = 2 then (if x = y then 0 else 1)
  else (if x = 0 then 0 else if y = 0 then 1 else 0)
theorem rc_jn01 (k : Nat) (x y : Int32) : rc_01 (rc_jn k x y) := by
  unfold rc_jn rc_01
  repeat' split
  all_goals first | exact Or.inl rfl | exact Or.inr rfl
theorem rc_jX0 {x y r : Int32} {post : Int32 → Prop} (hr : rc_jn 0 x y = r) (hp : post r) : wpX_isJoined post 0 x y := by
  subst hr
  refine br_f (by decide) (br_f (by decide) (br_t rfl ?_))
  by_cases z : x = 0
  · exact br_t z (by simpa [rc_jn, z] using hp)
  · by_cases w : y = 0
    · exact br_f z (br_t w (by simpa [rc_jn, z, w] using hp))
    · exact br_f z (br_f w (by simpa [rc_jn, z, w] using hp))
theorem rc_jX1 {x y r : Int32} {post : Int32 → Prop} (hr : rc_jn 1 x y = r) (hp : post r) : wpX_isJoined post 1 x y := by
  subst hr
  refine br_f (by decide) (br_f (by decide) (br_f (by decide) (br_t rfl ?_)))
  by_cases z : x = 0
  · by_cases w : y = 0
    · exact br_t z (br_t w (by simpa [rc_jn, z, w] using hp))
    · exact br_t z (br_f w (by simpa [rc_jn, z, w] using hp))
  · exact br_f z (by simpa [rc_jn, z] using hp)
theorem rc_jX2 {x y r : Int32} {post : Int32 → Prop} (hr : rc_jn 2 x y = r) (hp : post r) : wpX_isJoined post 2 x y := by
  subst hr
  refine br_f (by decide) (br_f (by decide) (br_f (by decide) (br_f (by decide) (br_t rfl ?_))))
  by_cases z : x = y
  · exact br_t z (by simpa [rc_jn, z] using hp)
  · exact br_f z (by simpa [rc_jn, z] using hp)
theorem rc_jX3 {x y r : Int32} {post : Int32 → Prop} (hr : rc_jn 3 x y = r) (hp : post r) : wpX_isJoined post 3 x y := by
  subst hr
  refine br_f (by decide) (br_t (by decide) ?_)
  by_cases z : x = 0
  · exact br_t z (by simpa [rc_jn, z] using hp)
  · by_cases w : y = 0
    · exact br_f z (br_t w (by simpa [rc_jn, z, w] using hp))
    · exact br_f z (br_f w (by simpa [rc_jn, z, w] using hp))
theorem rc_jX {k : Nat} (hk : k < 4) {x y : Int32} {post : Int32 → Prop} (hp : post (rc_jn k x y)) : wpX_isJoined post (nI k) x y := by
  match k, hk, hp with
  | 0, _, hp => exact rc_jX0 rfl hp
  | 1, _, hp => exact rc_jX1 rfl hp
  | 2, _, hp => exact rc_jX2 rfl hp
  | 3, _, hp => exact rc_jX3 rfl hp
theorem rc_jY {k : Nat} (hk : k < 4) {x y : Int32} {post : Int32 → Prop} {g : Int32} {a o : Nat → Int32} (hp : post (rc_jn k x y)) : wpY_joined post (g, a, o) (nI k) x y := by
  match k, hk, hp with
  | 0, _, hp =>
    refine br_t (by decide +kernel) ?_
    by_cases z : x = 0
    · exact br_t z (by simpa [rc_jn, z] using hp)
    · by_cases w : y = 0
      · exact br_f z (br_t w (by simpa [rc_jn, z, w] using hp))
      · exact br_f z (br_f w (by simpa [rc_jn, z, w] using hp))
  | 1, _, hp =>
    refine br_f (by decide +kernel) (br_t (by decide +kernel) ?_)
    by_cases z : x = 0
    · by_cases w : y = 0
      · exact br_t z (br_t w (by simpa [rc_jn, z, w] using hp))
      · exact br_t z (br_f w (by simpa [rc_jn, z, w] using hp))
    · exact br_f z (by simpa [rc_jn, z] using hp)
  | 2, _, hp =>
    refine br_f (by decide +kernel) (br_f (by decide +kernel) (br_t (by decide +kernel) ?_))
    by_cases z : x = y
    · exact br_t z (by simpa [rc_jn, z] using hp)
    · exact br_f z (by simpa [rc_jn, z] using hp)
  | 3, _, hp =>
    refine br_f (by decide +kernel) (br_f (by decide +kernel) (br_f (by decide +kernel) ?_))
    by_cases z : x = 0
    · exact br_t z (by simpa [rc_jn, z] using hp)
    · by_cases w : y = 0
      · exact br_f z (br_t w (by simpa [rc_jn, z, w] using hp))
      · exact br_f z (br_f w (by simpa [rc_jn, z, w] using hp))
theorem rc_com {m t a : Nat → Int32} (h : rc_R m t a) {s q : Nat} (hs : s < 3) (hq : q < 3) :
    ∀ d x : Nat, x + d = 512 → ∀ c : Int32, ∃ r : Int32,
      (∀ (post : Int32 → Prop) (f : Int32) (t : Nat → Int32), post r → wX_countJoined_20 post 0 (nI (s * 512)) (nI (q * 512)) f m t (d + 1) c (nI x)) ∧
      (∀ (post : Int32 → Prop) (g : Int32) (o : Nat → Int32), post r → wY_common_23 post (nI s) (nI q) g a o (d + 1) c (nI x)) := by
  intro d
  induction d with
  | zero =>
    intro x hx c
    have hg : (512 : Int32) ≤ nI x := rc_ge (by omega) (by omega)
    exact ⟨c, fun _ _ _ hp => br_t hg hp, fun _ _ _ hp => br_t hg hp⟩
  | succ d ih =>
    intro x hx c
    have hi : s * 512 + x < 1536 := by omega
    have hy : s * 512 + x < 2048 := by omega
    have hj : q * 512 + x < 1536 := by omega
    have hw : q * 512 + x < 2048 := by omega
    have h5 : ¬ (512 : Int32) ≤ nI x := rc_lt (by omega)
    by_cases z : a (s * 512 + x) = 0
    · obtain ⟨r, h1, h2⟩ := ih (x + 1) (by omega) c
      exact ⟨r, fun post f t hp => br_f h5 ⟨rc_vX hi, nm_r (rc_rd h hi) ⟨rc_vX hj, nm_r (rc_rd h hj) (rc_jX0 (r := 0) (by simp [rc_jn, z]) (br_t rfl (nm_r (nI_1 x) (h1 post f t hp))))⟩⟩,
        fun post g o hp => br_f h5 ⟨rc_vY hy, br_t ((rc_ry hy).trans z) (nm_r (nI_1 x) (h2 post g o hp))⟩⟩
    · have zy : ¬ a (512 * nI s + nI x).toNatClampNeg = 0 := fun q => z ((rc_ry hy).symm.trans q)
      by_cases w : a (q * 512 + x) = 0
      · obtain ⟨r, h1, h2⟩ := ih (x + 1) (by omega) c
        exact ⟨r, fun post f t hp => br_f h5 ⟨rc_vX hi, nm_r (rc_rd h hi) ⟨rc_vX hj, nm_r (rc_rd h hj) (rc_jX0 (r := 0) (by simp [rc_jn, z, w]) (br_t rfl (nm_r (nI_1 x) (h1 post f t hp))))⟩⟩,
          fun post g o hp => br_f h5 ⟨rc_vY hy, br_f zy ⟨rc_vY hw, br_t ((rc_ry hw).trans w) (nm_r (nI_1 x) (h2 post g o hp))⟩⟩⟩
      · obtain ⟨r, h1, h2⟩ := ih (x + 1) (by omega) (c + 1)
        exact ⟨r, fun post f t hp => br_f h5 ⟨rc_vX hi, nm_r (rc_rd h hi) ⟨rc_vX hj, nm_r (rc_rd h hj) (rc_jX0 (r := 1) (by simp [rc_jn, z, w]) (br_f rc_10 (nm_e (nm_r (nI_1 x) (h1 post f t hp)))))⟩⟩,
          fun post g o hp => br_f h5 ⟨rc_vY hy, br_f zy ⟨rc_vY hw, br_f (fun q => w ((rc_ry hw).symm.trans q)) (nm_e (nm_r (nI_1 x) (h2 post g o hp)))⟩⟩⟩
theorem rc_wit {m t a : Nat → Int32} (h : rc_R m t a) {s q : Nat} (hs : s < 3) (hq : q < 3) :
    ∀ d x : Nat, x + d = 512 → ∀ c : Nat, c + d ≤ 512 → ∃ r : Nat, c ≤ r ∧ r ≤ 512 ∧
      (∀ (post : Int32 → Prop) (f : Int32) (t : Nat → Int32), post (nI r) → wX_countJoined_20 post 3 (nI (s * 512)) (nI (q * 512)) f m t (d + 1) (nI c) (nI x)) ∧
      (∀ (post : Int32 → Prop) (g : Int32) (o : Nat → Int32), post (if r = c then 1 else 0) → wY_within_20 post (nI s) (nI q) g a o (d + 1) (nI x)) := by
  intro d
  induction d with
  | zero =>
    intro x hx c hc
    have hg : (512 : Int32) ≤ nI x := rc_ge (by omega) (by omega)
    exact ⟨c, by omega, by omega, fun _ _ _ hp => br_t hg hp, fun _ _ _ hp => br_t hg (by rwa [if_pos rfl] at hp)⟩
  | succ d ih =>
    intro x hx c hc
    have hi : s * 512 + x < 1536 := by omega
    have hy : s * 512 + x < 2048 := by omega
    have hj : q * 512 + x < 1536 := by omega
    have hw : q * 512 + x < 2048 := by omega
    have h5 : ¬ (512 : Int32) ≤ nI x := rc_lt (by omega)
    by_cases z : a (s * 512 + x) = 0
    · obtain ⟨r, hr1, hr2, h1, h2⟩ := ih (x + 1) (by omega) c (by omega)
      exact ⟨r, hr1, hr2, fun post f t hp => br_f h5 ⟨rc_vX hi, nm_r (rc_rd h hi) ⟨rc_vX hj, nm_r (rc_rd h hj) (rc_jX3 (r := 0) (by simp [rc_jn, z]) (br_t rfl (nm_r (nI_1 x) (h1 post f t hp))))⟩⟩,
        fun post g o hp => br_f h5 ⟨rc_vY hy, br_t ((rc_ry hy).trans z) (nm_r (nI_1 x) (h2 post g o hp))⟩⟩
    · have zy : ¬ a (512 * nI s + nI x).toNatClampNeg = 0 := fun q => z ((rc_ry hy).symm.trans q)
      by_cases w : a (q * 512 + x) = 0
      · obtain ⟨r, hr1, hr2, h1, h2⟩ := ih (x + 1) (by omega) (c + 1) (by omega)
        exact ⟨r, by omega, hr2, fun post f t hp => br_f h5 ⟨rc_vX hi, nm_r (rc_rd h hi) ⟨rc_vX hj, nm_r (rc_rd h hj) (rc_jX3 (r := 1) (by simp [rc_jn, z, w]) (br_f rc_10 (nm_r (nI_1 c) (nm_r (nI_1 x) (h1 post f t hp)))))⟩⟩,
          fun post g o hp => br_f h5 ⟨rc_vY hy, br_f zy ⟨rc_vY hw, br_t ((rc_ry hw).trans w) (by rwa [if_neg (by omega)] at hp)⟩⟩⟩
      · obtain ⟨r, hr1, hr2, h1, h2⟩ := ih (x + 1) (by omega) c (by omega)
        exact ⟨r, hr1, hr2, fun post f t hp => br_f h5 ⟨rc_vX hi, nm_r (rc_rd h hi) ⟨rc_vX hj, nm_r (rc_rd h hj) (rc_jX3 (r := 0) (by simp [rc_jn, z, w]) (br_t rfl (nm_r (nI_1 x) (h1 post f t hp))))⟩⟩,
          fun post g o hp => br_f h5 ⟨rc_vY hy, br_f zy ⟨rc_vY hw, br_f (fun q => w ((rc_ry hw).symm.trans q)) (nm_r (nI_1 x) (h2 post g o hp))⟩⟩⟩
theorem rc_sam {m t a : Nat → Int32} (h : rc_R m t a) {s q : Nat} (hs : s < 3) (hq : q < 3) :
    ∀ d x : Nat, x + d = 512 → ∀ c : Nat, c + d ≤ 512 → ∃ r : Nat, c ≤ r ∧ r ≤ 512 ∧
      (∀ (post : Int32 → Prop) (f : Int32) (t : Nat → Int32), post (nI r) → wX_countJoined_20 post 2 (nI (s * 512)) (nI (q * 512)) f m t (d + 1) (nI c) (nI x)) ∧
      (∀ (post : Int32 → Prop) (g : Int32) (o : Nat → Int32), post (if r = c then 1 else 0) → wY_same_20 post (nI s) (nI q) g a o (d + 1) (nI x)) := by
  intro d
  induction d with
  | zero =>
    intro x hx c hc
    have hg : (512 : Int32) ≤ nI x := rc_ge (by omega) (by omega)
    exact ⟨c, by omega, by omega, fun _ _ _ hp => br_t hg hp, fun _ _ _ hp => br_t hg (by rwa [if_pos rfl] at hp)⟩
  | succ d ih =>
    intro x hx c hc
    have hi : s * 512 + x < 1536 := by omega
    have hy : s * 512 + x < 2048 := by omega
    have hj : q * 512 + x < 1536 := by omega
    have hw : q * 512 + x < 2048 := by omega
    have h5 : ¬ (512 : Int32) ≤ nI x := rc_lt (by omega)
    by_cases z : a (s * 512 + x) = a (q * 512 + x)
    · obtain ⟨r, hr1, hr2, h1, h2⟩ := ih (x + 1) (by omega) c (by omega)
      exact ⟨r, hr1, hr2, fun post f t hp => br_f h5 ⟨rc_vX hi, nm_r (rc_rd h hi) ⟨rc_vX hj, nm_r (rc_rd h hj) (rc_jX2 (r := 0) (by simp [rc_jn, z]) (br_t rfl (nm_r (nI_1 x) (h1 post f t hp))))⟩⟩,
        fun post g o hp => br_f h5 ⟨rc_vY hy, rc_vY hw, br_t ((rc_ry hy).trans (z.trans (rc_ry hw).symm)) (nm_r (nI_1 x) (h2 post g o hp))⟩⟩
    · obtain ⟨r, hr1, hr2, h1, h2⟩ := ih (x + 1) (by omega) (c + 1) (by omega)
      exact ⟨r, by omega, hr2, fun post f t hp => br_f h5 ⟨rc_vX hi, nm_r (rc_rd h hi) ⟨rc_vX hj, nm_r (rc_rd h hj) (rc_jX2 (r := 1) (by simp [rc_jn, z]) (br_f rc_10 (nm_r (nI_1 c) (nm_r (nI_1 x) (h1 post f t hp)))))⟩⟩,
        fun post g o hp => br_f h5 ⟨rc_vY hy, rc_vY hw, br_f (fun e => z ((rc_ry hy).symm.trans (e.trans (rc_ry hw)))) (by rwa [if_neg (by omega)] at hp)⟩⟩
