section
/-! pasted from the kit's pure rows: stores and numbers -/
theorem pk_us {f : Nat → Int32} {k : Nat} {x : Int32} : upd f k x k = x := if_pos rfl
theorem pk_un {f : Nat → Int32} {k j : Nat} {x : Int32} (h : j ≠ k) : upd f k x j = f j := if_neg h
theorem pk_sub {a b : Nat} (h : b ≤ a) : nI a - nI b = nI (a - b) := by
  obtain ⟨c, rfl⟩ : ∃ c, a = c + b := ⟨a - b, by omega⟩
  rw [← nI_add, Int32.add_sub_cancel, Nat.add_sub_cancel]
theorem pk_m1 (n : Nat) : nI (n + 1) + (-1) = nI n := by
  rw [← nI_1, Int32.add_assoc, show (1 : Int32) + (-1) = 0 from rfl, Int32.add_zero]
theorem pk_mul (a b : Nat) : nI a * nI b = nI (a * b) := (Int32.ofNat_mul a b).symm
theorem pk_div {a d : Nat} (ha : a < 2 ^ 31) (h0 : 0 < d) (hd : d < 2 ^ 31) : nI a / nI d = nI (a / d) := by
  apply Int32.toInt_inj.mp
  rw [lg_idiv_nonneg (by rw [nI_toInt ha]; omega) (by rw [nI_toInt hd]; omega), nI_toInt ha, nI_toInt hd, nI_toInt (Nat.lt_of_le_of_lt (Nat.div_le_self a d) ha)]
  first | rfl | exact (Int.natCast_ediv _ _).symm
theorem pk_rem {a d : Nat} (ha : a < 2 ^ 31) (h0 : 0 < d) (hd : d < 2 ^ 31) : nI a - nI a / nI d * nI d = nI (a % d) := by
  rw [pk_div ha h0 hd, pk_mul, pk_sub (Nat.div_mul_le_self a d)]
  exact congrArg nI (by have := Nat.div_add_mod' a d; omega)
theorem pk_sub_toInt {a b : Nat} (ha : a < 2 ^ 30) (hb : b < 2 ^ 30) : (nI a - nI b).toInt = (a : Int) - b := by
  rw [Int32.toInt_sub, nI_toInt (by omega), nI_toInt (by omega)]
  exact Int.bmod_eq_of_le (by omega) (by omega)
theorem pk_sneg {a b : Nat} (hb : b < 2 ^ 30) (h : a < b) : nI a - nI b < 0 := by
  rw [Int32.lt_iff_toInt_lt, pk_sub_toInt (by omega) hb, show (0 : Int32).toInt = 0 from by decide]
  omega
/-! the numbers of the claim -/
theorem rc_3 : nI 3 = 3 := by decide +kernel
theorem rc_256 : nI 256 = 256 := by decide +kernel
theorem rc_512 : nI 512 = 512 := by decide +kernel
theorem rc_511 : nI 511 = 511 := by decide +kernel
theorem rc_m1 : nI 0 + (-1) = -1 := by decide +kernel
theorem rc_L {a b : Nat} (h : a + b < 2 ^ 31) : (nI a + nI b).toNatClampNeg = a + b := by rw [nI_add, nI_clamp h]
/-- the component's base of a set -/
theorem rc_bX (s : Nat) : nI s * 512 = nI (s * 512) := by rw [← rc_512, pk_mul]
theorem rc_bY (s x : Nat) : 512 * nI s + nI x = nI (s * 512 + x) := by rw [← rc_512, pk_mul, nI_add, Nat.mul_comm]
theorem rc_b3 (x : Nat) : (512 : Int32) * 3 + nI x = nI (1536 + x) := by rw [← rc_3]; exact rc_bY 3 x
theorem rc_iX {B x : Nat} (h : B + x < 1536) : (nI B + nI x).toNatClampNeg = B + x := by rw [nI_add, nI_clamp (by omega)]
theorem rc_iY {s x : Nat} (h : s * 512 + x < 2048) : (512 * nI s + nI x).toNatClampNeg = s * 512 + x := by rw [rc_bY, nI_clamp (by omega)]
theorem rc_i3 {x : Nat} (h : x < 512) : ((512 : Int32) * 3 + nI x).toNatClampNeg = 1536 + x := by rw [rc_b3, nI_clamp (by omega)]
theorem rc_vX {B x : Nat} (h : B + x < 1536) : vp_in (nI B + nI x) 1536 := by rw [nI_add]; exact vp_in_nI h (by decide)
theorem rc_vY {s x : Nat} (h : s * 512 + x < 2048) : vp_in (512 * nI s + nI x) 2048 := by rw [rc_bY]; exact vp_in_nI h (by decide)
theorem rc_v3 {x : Nat} (h : x < 512) : vp_in ((512 : Int32) * 3 + nI x) 2048 := by rw [rc_b3]; exact vp_in_nI (by omega) (by decide)
theorem rc_lt {x : Nat} (h : x < 512) : ¬ (512 : Int32) ≤ nI x := by rw [← rc_512]; exact nI_ge h (by decide)
theorem rc_ge {x : Nat} (h : 512 ≤ x) (hx : x < 2 ^ 31) : (512 : Int32) ≤ nI x := by rw [← rc_512]; exact nI_le h hx
/-! the relation -/
def rc_01 (x : Int32) : Prop := x = 0 ∨ x = 1
theorem rc_n0 : vp_nar .boolean 0 = 0 := by decide +kernel
theorem rc_n1 : vp_nar .boolean 1 = 1 := by decide +kernel
theorem rc_nar {x : Int32} (h : rc_01 x) : vp_nar .boolean x = x := by
  rcases h with h | h
  · rw [h, rc_n0]
  · rw [h, rc_n1]
theorem rc_one {x : Int32} (h : rc_01 x) (z : ¬ x = 0) : x = 1 := h.resolve_left z
theorem rc_10 : ¬ (1 : Int32) = 0 := by decide
/-- the component's places and tape, the reference's places: the tape is its fourth set -/
def rc_R (m t a : Nat → Int32) : Prop := (∀ i, i < 1536 → m i = a i) ∧ (∀ i, i < 512 → t i = a (1536 + i)) ∧ (∀ i, i < 2048 → rc_01 (a i))
def i_Rel (_ : Nat) (u : SX) (v : SY) : Prop := u.1 = v.1 ∧ rc_R u.2.1 u.2.2 v.2.1
theorem i_up {k : Nat} {u : SX} {v : SY} (h : i_Rel k u v) : i_Rel (k + 4) u v := h
theorem i_vc0 : wpX_init (fun u => wpY_init (fun v => i_Rel 0 u v)) := ⟨rfl, fun _ _ => rfl, fun _ _ => rfl, fun _ _ => Or.inl rfl⟩
theorem rc_rd {m t a : Nat → Int32} (h : rc_R m t a) {B x : Nat} (hx : B + x < 1536) : m (nI B + nI x).toNatClampNeg = a (B + x) := by
  rw [rc_iX hx]; exact h.1 _ hx
theorem rc_ry {a : Nat → Int32} {s x : Nat} (hx : s * 512 + x < 2048) : a (512 * nI s + nI x).toNatClampNeg = a (s * 512 + x) := by
  rw [rc_iY hx]
theorem rc_R_upd {m t a : Nat → Int32} (h : rc_R m t a) {i : Nat} (hi : i < 1536) {w : Int32} (hw : rc_01 w) : rc_R (upd m i w) t (upd a i w) := by
  refine ⟨fun j hj => ?_, fun j hj => ?_, fun j hj => ?_⟩
  · by_cases e : j = i
    · rw [e, pk_us, pk_us]
    · rw [pk_un e, pk_un e]; exact h.1 j hj
  · rw [pk_un (by omega)]; exact h.2.1 j hj
  · by_cases e : j = i
    · rw [e, pk_us]; exact hw
    · rw [pk_un e]; exact h.2.2 j hj
theorem rc_R_updY {m t a : Nat → Int32} (h : rc_R m t a) {i : Nat} (hi : i < 1536) {w : Int32} (e0 : a i = w) : rc_R m t (upd a i w) := by
  have e : upd a i w = a := by
    funext j
    by_cases e : j = i
    · rw [e, pk_us, e0]
    · rw [pk_un e]
  rw [e]; exact h
theorem rc_R_updT {m t a : Nat → Int32} (h : rc_R m t a) {i : Nat} (hi : i < 512) {w : Int32} (hw : rc_01 w) : rc_R m (upd t i w) (upd a (1536 + i) w) := by
  refine ⟨fun j hj => ?_, fun j hj => ?_, fun j hj => ?_⟩
  · rw [pk_un (by omega)]; exact h.1 j hj
  · by_cases e : j = i
    · rw [e, pk_us, pk_us]
    · rw [pk_un e, pk_un (by omega)]; exact h.2.1 j hj
  · by_cases e : j = 1536 + i
    · rw [e, pk_us]; exact hw
    · rw [pk_un e]; exact h.2.2 j hj
/-! the refusals -/
theorem rc_set (p : Int32) :
    ((∀ post : Int32 → Prop, post 0 → wpX_isSet post p) ∧ (∀ (post : Int32 → Prop) (g : Int32) (a o : Nat → Int32), post 1 → wpY_badSet post (g, a, o) p)) ∨
    (∃ s : Nat, s < 3 ∧ p = nI s ∧ (∀ post : Int32 → Prop, post 1 → wpX_isSet post p) ∧ (∀ (post : Int32 → Prop) (g : Int32) (a o : Nat → Int32), post 0 → wpY_badSet post (g, a, o) p)) := by
  by_cases h0 : p < 0
  · exact Or.inl ⟨fun _ hp => br_t h0 hp, fun _ _ _ _ hp => br_t h0 hp⟩
  · obtain ⟨s, hs, rfl⟩ := nI_of h0
    by_cases h3 : s < 3
    · exact Or.inr ⟨s, h3, rfl, fun _ hp => br_f h0 (br_f (nI_ge (b := 3) h3 (by decide)) hp), fun _ _ _ _ hp => br_f h0 (br_t (nI_le (b := 2) (by omega) (by decide)) hp)⟩
    · exact Or.inl ⟨fun _ hp => br_f h0 (br_t (nI_le (a := 3) (by omega) hs) hp), fun _ _ _ _ hp => br_f h0 (br_f (nI_ge (a := 2) (by omega) hs) hp)⟩
theorem rc_num (p : Int32) :
    ((∀ post : Int32 → Prop, post 0 → wpX_isNumber post p) ∧ (∀ (post : Int32 → Prop) (g : Int32) (a o : Nat → Int32), post 1 → wpY_badNumber post (g, a, o) p)) ∨
    (∃ s : Nat, s < 512 ∧ p = nI s ∧ (∀ post : Int32 → Prop, post 1 → wpX_isNumber post p) ∧ (∀ (post : Int32 → Prop) (g : Int32) (a o : Nat → Int32), post 0 → wpY_badNumber post (g, a, o) p)) := by
  by_cases h0 : p < 0
  · exact Or.inl ⟨fun _ hp => br_t h0 hp, fun _ _ _ _ hp => br_t h0 hp⟩
  · obtain ⟨s, hs, rfl⟩ := nI_of h0
    by_cases h3 : s < 512
    · exact Or.inr ⟨s, h3, rfl, fun _ hp => br_f h0 (br_f (rc_lt h3) hp), fun _ _ _ _ hp => br_f h0 (br_t (by rw [← rc_511]; exact nI_le (by omega) (by decide)) hp)⟩
    · exact Or.inl ⟨fun _ hp => br_f h0 (br_t (rc_ge (by omega) hs) hp), fun _ _ _ _ hp => br_f h0 (br_f (by rw [← rc_511]; exact nI_ge (by omega) hs) hp)⟩
theorem rc_rng (p q : Int32) :
    ((∀ post : Int32 → Prop, post 0 → wpX_isRange post p q) ∧ (∀ (post : Int32 → Prop) (g : Int32) (a o : Nat → Int32), post 1 → wpY_badRange post (g, a, o) p q)) ∨
    (∃ x y : Nat, x ≤ y ∧ y < 512 ∧ p = nI x ∧ q = nI y ∧ (∀ post : Int32 → Prop, post 1 → wpX_isRange post p q) ∧ (∀ (post : Int32 → Prop) (g : Int32) (a o : Nat → Int32), post 0 → wpY_badRange post (g, a, o) p q)) := by
  by_cases h0 : p < 0
  · exact Or.inl ⟨fun _ hp => br_t h0 hp, fun _ _ _ _ hp => br_t h0 hp⟩
  · by_cases h1 : q < p
    · exact Or.inl ⟨fun _ hp => br_f h0 (br_t h1 hp), fun _ _ _ _ hp => br_f h0 (br_t h1 hp)⟩
    · obtain ⟨x, hx, rfl⟩ := nI_of h0
      have hq : ¬ q < 0 := fun z => h1 (Int32.lt_of_lt_of_le z (nI_pos' hx))
      obtain ⟨y, hy, rfl⟩ := nI_of hq
      have hxy : x ≤ y := by
        have := mt (nI_ltI hy hx).mpr h1
        omega
      by_cases h3 : y < 512
      · exact Or.inr ⟨x, y, hxy, h3, rfl, rfl, fun _ hp => br_f h0 (br_f h1 (br_f (rc_lt h3) hp)), fun _ _ _ _ hp => br_f h0 (br_f h1 (br_t (by rw [← rc_511]; exact nI_le (by omega) (by decide)) hp))⟩
      · exact Or.inl ⟨fun _ hp => br_f h0 (br_f h1 (br_t (rc_ge (by omega) hy) hp)), fun _ _ _ _ hp => br_f h0 (br_f h1 (br_f (by rw [← rc_511]; exact nI_ge (by omega) hy) hp))⟩
end
section
/-! loops that only read, in step: one answer for both sides -/
theorem rc_cnt {m t a : Nat → Int32} (h : rc_R m t a) {s : Nat} (hs : s < 3) (E : Nat) (hE : E ≤ 512) (e p : Int32)
    (he1 : ∀ x, x < E → ¬ e ≤ nI x) (he2 : e ≤ nI E) (hp1 : ∀ x, x < E → ¬ p ≤ nI x) (hp2 : E = 512 ∨ p ≤ nI E) :
    ∀ d x : Nat, x + d = E → ∀ c : Int32, ∃ r : Int32,
      (∀ (post : Int32 → Prop) (f : Int32) (t : Nat → Int32), post r → wX_countBelow_28 post (nI (s * 512)) e f m t (d + 1) c (nI x)) ∧
      (∀ (post : Int32 → Prop) (g : Int32) (o : Nat → Int32), post r → wY_rank_15 post (nI s) p g a o (d + 1) c (nI x)) := by
  intro d
  induction d with
  | zero =>
    intro x hx c
    have hx : x = E := by omega
    subst hx
    refine ⟨c, fun _ _ _ hp => br_t he2 hp, fun _ _ _ hp => ?_⟩
    by_cases z : 512 ≤ x
    · exact br_t (rc_ge z (by omega)) hp
    · exact br_f (rc_lt (by omega)) (br_t (hp2.resolve_left (by omega)) hp)
  | succ d ih =>
    intro x hx c
    have hi : s * 512 + x < 1536 := by omega
    have hy : s * 512 + x < 2048 := by omega
    have h5 : ¬ (512 : Int32) ≤ nI x := rc_lt (by omega)
    have hX := he1 x (by omega)
    have hY := hp1 x (by omega)
    by_cases z : a (s * 512 + x) = 0
    · obtain ⟨r, h1, h2⟩ := ih (x + 1) (by omega) c
      exact ⟨r, fun post f t hp => br_f hX ⟨rc_vX hi, br_t ((rc_rd h hi).trans z) (nm_r (nI_1 x) (h1 post f t hp))⟩,
        fun post g o hp => br_f h5 (br_f hY ⟨rc_vY hy, br_t ((rc_ry hy).trans z) (nm_r (nI_1 x) (h2 post g o hp))⟩)⟩
    · obtain ⟨r, h1, h2⟩ := ih (x + 1) (by omega) (c + 1)
      exact ⟨r, fun post f t hp => br_f hX ⟨rc_vX hi, br_f (fun q => z ((rc_rd h hi).symm.trans q)) (nm_e (nm_r (nI_1 x) (h1 post f t hp)))⟩,
        fun post g o hp => br_f h5 (br_f hY ⟨rc_vY hy, br_f (fun q => z ((rc_ry hy).symm.trans q)) (nm_e (nm_r (nI_1 x) (h2 post g o hp)))⟩)⟩
theorem rc_cnM {m t a : Nat → Int32} (h : rc_R m t a) {s : Nat} (hs : s < 3) :
    ∀ d x : Nat, x + d = 512 → ∀ c : Int32, ∃ r : Int32,
      (∀ (post : Int32 → Prop) (f : Int32) (t : Nat → Int32), post r → wX_countBelow_28 post (nI (s * 512)) 512 f m t (d + 1) c (nI x)) ∧
      (∀ (post : Int32 → Prop) (g : Int32) (o : Nat → Int32), post r → wY_many_4 post (nI s) g a o (d + 1) c (nI x)) := by
  intro d
  induction d with
  | zero =>
    intro x hx c
    have hg : (512 : Int32) ≤ nI x := rc_ge (by omega) (by omega)
    exact ⟨c, fun _ _ _ hp => br_t hg hp, fun _ _ _ hp => br_t hg hp⟩
  | succ d ih =>
    intro x hx c
    have hi : s * 512 + x < 1536 := by omega
    have hy : s * 512 + x < 2048 := by omega
    have h5 : ¬ (512 : Int32) ≤ nI x := rc_lt (by omega)
    by_cases z : a (s * 512 + x) = 0
    · obtain ⟨r, h1, h2⟩ := ih (x + 1) (by omega) c
      exact ⟨r, fun post f t hp => br_f h5 ⟨rc_vX hi, br_t ((rc_rd h hi).trans z) (nm_r (nI_1 x) (h1 post f t hp))⟩,
        fun post g o hp => br_f h5 ⟨rc_vY hy, br_t ((rc_ry hy).trans z) (nm_r (nI_1 x) (h2 post g o hp))⟩⟩
    · obtain ⟨r, h1, h2⟩ := ih (x + 1) (by omega) (c + 1)
      exact ⟨r, fun post f t hp => br_f h5 ⟨rc_vX hi, br_f (fun q => z ((rc_rd h hi).symm.trans q)) (nm_e (nm_r (nI_1 x) (h1 post f t hp)))⟩,
        fun post g o hp => br_f h5 ⟨rc_vY hy, br_f (fun q => z ((rc_ry hy).symm.trans q)) (nm_e (nm_r (nI_1 x) (h2 post g o hp)))⟩⟩
/-- how many a set has: countBelow(set, 512) and many(set) -/
theorem rc_count {m t a : Nat → Int32} (h : rc_R m t a) {s : Nat} (hs : s < 3) : ∃ r : Int32,
      (∀ (post : Int32 → Prop) (f : Int32) (t : Nat → Int32), post r → wpX_countBelow post (f, m, t) (nI s) 512) ∧
      (∀ (post : Int32 → Prop) (g : Int32) (o : Nat → Int32), post r → wpY_many post (g, a, o) (nI s)) := by
  obtain ⟨r, h1, h2⟩ := rc_cnM h hs 512 0 rfl 0
  rw [nI_0] at h1 h2
  refine ⟨r, fun post f t hp => ?_, fun post g o hp => ?_⟩
  · unfold wpX_countBelow
    dsimp only
    exact nm_r (rc_bX s) (br_t (by decide) ⟨_, h1 post f t hp⟩)
  · unfold wpY_many
    dsimp only
    exact ⟨_, h2 post g o hp⟩
theorem rc_sel {m t a : Nat → Int32} (h : rc_R m t a) {s : Nat} (hs : s < 3) (k : Int32) :
    ∀ d x : Nat, x + d = 512 → ∀ c : Int32, ∃ r : Int32,
      (∀ (post : Int32 → Prop) (f : Int32) (t : Nat → Int32), post r → wX_select_28 post k (nI (s * 512)) f m t (d + 1) c (nI x)) ∧
      (∀ (post : Int32 → Prop) (g : Int32) (o : Nat → Int32), post r → wY_select_15 post (nI s) k g a o (d + 1) c (nI x)) := by
  intro d
  induction d with
  | zero =>
    intro x hx c
    have hg : (512 : Int32) ≤ nI x := rc_ge (by omega) (by omega)
    exact ⟨-2, fun _ _ _ hp => br_t hg hp, fun _ _ _ hp => br_t hg hp⟩
  | succ d ih =>
    intro x hx c
    have hi : s * 512 + x < 1536 := by omega
    have hy : s * 512 + x < 2048 := by omega
    have h5 : ¬ (512 : Int32) ≤ nI x := rc_lt (by omega)
    by_cases z : a (s * 512 + x) = 0
    · obtain ⟨r, h1, h2⟩ := ih (x + 1) (by omega) c
      exact ⟨r, fun post f t hp => br_f h5 ⟨rc_vX hi, br_t ((rc_rd h hi).trans z) (nm_r (nI_1 x) (h1 post f t hp))⟩,
        fun post g o hp => br_f h5 ⟨rc_vY hy, br_t ((rc_ry hy).trans z) (nm_r (nI_1 x) (h2 post g o hp))⟩⟩
    · by_cases e : c = k
      · exact ⟨nI x, fun post f t hp => br_f h5 ⟨rc_vX hi, br_f (fun q => z ((rc_rd h hi).symm.trans q)) (br_t e hp)⟩,
          fun post g o hp => br_f h5 ⟨rc_vY hy, br_f (fun q => z ((rc_ry hy).symm.trans q)) (br_t e hp)⟩⟩
      · obtain ⟨r, h1, h2⟩ := ih (x + 1) (by omega) (c + 1)
        exact ⟨r, fun post f t hp => br_f h5 ⟨rc_vX hi, br_f (fun q => z ((rc_rd h hi).symm.trans q)) (br_f e (nm_e (nm_r (nI_1 x) (h1 post f t hp))))⟩,
          fun post g o hp => br_f h5 ⟨rc_vY hy, br_f (fun q => z ((rc_ry hy).symm.trans q)) (br_f e (nm_e (nm_r (nI_1 x) (h2 post g o hp))))⟩⟩
theorem rc_selN {a : Nat → Int32} {s : Nat} (hs : s < 3) {k : Int32} (hk : k < 0) (post : Int32 → Prop) (g : Int32) (o : Nat → Int32) (hp : post (-2)) :
    ∀ d x : Nat, x + d = 512 → ∀ c : Nat, c ≤ x → wY_select_15 post (nI s) k g a o (d + 1) (nI c) (nI x) := by
  intro d
  induction d with
  | zero =>
    intro x hx c hc
    exact br_t (rc_ge (by omega) (by omega)) hp
  | succ d ih =>
    intro x hx c hc
    have hy : s * 512 + x < 2048 := by omega
    have h5 : ¬ (512 : Int32) ≤ nI x := rc_lt (by omega)
    have e : ¬ nI c = k := fun q => nI_pos (n := c) (by omega) (by rw [q]; exact hk)
    by_cases z : a (s * 512 + x) = 0
    · exact br_f h5 ⟨rc_vY hy, br_t ((rc_ry hy).trans z) (nm_r (nI_1 x) (ih (x + 1) (by omega) c (by omega)))⟩
    · exact br_f h5 ⟨rc_vY hy, br_f (fun q => z ((rc_ry hy).symm.trans q)) (br_f e (nm_r (nI_1 c) (nm_r (nI_1 x) (ih (x + 1) (by omega) (c + 1) (by omega)))))⟩
theorem rc_nxt {m t a : Nat → Int32} (h : rc_R m t a) {s : Nat} (hs : s < 3) (p : Int32) :
    ∀ d x : Nat, x + d = 512 → (∀ y, x ≤ y → y < 512 → ¬ nI y < p) → ∃ r : Int32,
      (∀ (post : Int32 → Prop) (f : Int32) (t : Nat → Int32), post r → wX_next_30 post (nI (s * 512)) f m t (d + 1) (nI x)) ∧
      (∀ (post : Int32 → Prop) (g : Int32) (o : Nat → Int32), post r → wY_next_12 post (nI s) p g a o (d + 1) (nI x)) := by
  intro d
  induction d with
  | zero =>
    intro x hx _
    have hg : (512 : Int32) ≤ nI x := rc_ge (by omega) (by omega)
    exact ⟨-2, fun _ _ _ hp => br_t hg hp, fun _ _ _ hp => br_t hg hp⟩
  | succ d ih =>
    intro x hx hn
    have hi : s * 512 + x < 1536 := by omega
    have hy : s * 512 + x < 2048 := by omega
    have h5 : ¬ (512 : Int32) ≤ nI x := rc_lt (by omega)
    have h6 := hn x (by omega) (by omega)
    by_cases z : a (s * 512 + x) = 0
    · obtain ⟨r, h1, h2⟩ := ih (x + 1) (by omega) (fun y h1 h2 => hn y (by omega) h2)
      exact ⟨r, fun post f t hp => br_f h5 ⟨rc_vX hi, br_t ((rc_rd h hi).trans z) (nm_r (nI_1 x) (h1 post f t hp))⟩,
        fun post g o hp => br_f h5 (br_f h6 ⟨rc_vY hy, br_t ((rc_ry hy).trans z) (nm_r (nI_1 x) (h2 post g o hp))⟩)⟩
    · exact ⟨nI x, fun post f t hp => br_f h5 ⟨rc_vX hi, br_f (fun q => z ((rc_rd h hi).symm.trans q)) hp⟩,
        fun post g o hp => br_f h5 (br_f h6 ⟨rc_vY hy, br_f (fun q => z ((rc_ry hy).symm.trans q)) hp⟩)⟩
theorem rc_nxS {a : Nat → Int32} {s : Nat} (p : Int32) (E : Nat) (hE : E ≤ 512) (hp : ∀ y, y < E → nI y < p) (post : Int32 → Prop) (g : Int32) (o : Nat → Int32) (n : Nat)
    (hw : wY_next_12 post (nI s) p g a o n (nI E)) : ∀ d x : Nat, x + d = E → wY_next_12 post (nI s) p g a o (n + d) (nI x) := by
  intro d
  induction d with
  | zero =>
    intro x hx
    have hx : x = E := by omega
    subst hx
    exact hw
  | succ d ih =>
    intro x hx
    exact br_f (rc_lt (by omega)) (br_t (hp x (by omega)) (nm_r (nI_1 x) (ih (x + 1) (by omega))))
theorem rc_neg : nI 0 + (-1) < 0 := by decide +kernel
theorem rc_prv {m t a : Nat → Int32} (h : rc_R m t a) {s : Nat} (hs : s < 3) (p : Int32) :
    ∀ k : Nat, k ≤ 512 → (∀ y, y < k → ¬ p < nI y) → ∃ r : Int32,
      (∀ (post : Int32 → Prop) (f : Int32) (t : Nat → Int32), post r → wX_previous_35 post (nI (s * 512)) f m t (k + 1) (nI k + (-1))) ∧
      (∀ (post : Int32 → Prop) (g : Int32) (o : Nat → Int32), post r → wY_previous_14 post (nI s) p g a o (k + 1) (nI k + (-1))) := by
  intro k
  induction k with
  | zero =>
    intro _ _
    exact ⟨-2, fun _ _ _ hp => br_t rc_neg hp, fun _ _ _ hp => br_t rc_neg hp⟩
  | succ x ih =>
    intro hx hn
    have hi : s * 512 + x < 1536 := by omega
    have hy : s * 512 + x < 2048 := by omega
    have h5 : ¬ nI x < 0 := nI_pos (by omega)
    have h6 := hn x (by omega)
    rw [pk_m1]
    by_cases z : a (s * 512 + x) = 0
    · obtain ⟨r, h1, h2⟩ := ih (by omega) (fun y h1 => hn y (by omega))
      exact ⟨r, fun post f t hp => br_f h5 ⟨rc_vX hi, br_t ((rc_rd h hi).trans z) (nm_e (h1 post f t hp))⟩,
        fun post g o hp => br_f h5 (br_f h6 ⟨rc_vY hy, br_t ((rc_ry hy).trans z) (nm_e (h2 post g o hp))⟩)⟩
    · exact ⟨nI x, fun post f t hp => br_f h5 ⟨rc_vX hi, br_f (fun q => z ((rc_rd h hi).symm.trans q)) hp⟩,
        fun post g o hp => br_f h5 (br_f h6 ⟨rc_vY hy, br_f (fun q => z ((rc_ry hy).symm.trans q)) hp⟩)⟩
theorem rc_pvS {a : Nat → Int32} {s : Nat} (p : Int32) (J : Nat) (hp : ∀ y, J ≤ y → y < 512 → p < nI y) (post : Int32 → Prop) (g : Int32) (o : Nat → Int32) (n : Nat)
    (hw : wY_previous_14 post (nI s) p g a o n (nI J + (-1))) : ∀ d : Nat, J + d ≤ 512 → wY_previous_14 post (nI s) p g a o (n + d) (nI (J + d) + (-1)) := by
  intro d
  induction d with
  | zero => intro _; exact hw
  | succ d ih =>
    intro hd
    rw [← Nat.add_assoc J d 1, pk_m1]
    exact br_f (nI_pos (by omega)) (br_t (hp (J + d) (by omega) (by omega)) (nm_e (ih (by omega))))
theorem rc_gap {m t a : Nat → Int32} (h : rc_R m t a) {s : Nat} (hs : s < 3) :
    ∀ d x : Nat, x + d = 512 → ∃ r : Int32,
      (∀ (post : Int32 → Prop) (f : Int32) (t : Nat → Int32), post r → wX_gap_28 post (nI (s * 512)) f m t (d + 1) (nI x)) ∧
      (∀ (post : Int32 → Prop) (g : Int32) (o : Nat → Int32), post r → wY_gap_23 post (nI s) g a o (d + 1) (nI x)) := by
  intro d
  induction d with
  | zero =>
    intro x hx
    have hg : (512 : Int32) ≤ nI x := rc_ge (by omega) (by omega)
    exact ⟨-3, fun _ _ _ hp => br_t hg hp, fun _ _ _ hp => br_t hg hp⟩
  | succ d ih =>
    intro x hx
    have hi : s * 512 + x < 1536 := by omega
    have hy : s * 512 + x < 2048 := by omega
    have h5 : ¬ (512 : Int32) ≤ nI x := rc_lt (by omega)
    by_cases z : a (s * 512 + x) = 0
    · exact ⟨nI x, fun post f t hp => br_f h5 ⟨rc_vX hi, br_t ((rc_rd h hi).trans z) hp⟩,
        fun post g o hp => br_f h5 ⟨rc_vY hy, br_t ((rc_ry hy).trans z) hp⟩⟩
    · obtain ⟨r, h1, h2⟩ := ih (x + 1) (by omega)
      exact ⟨r, fun post f t hp => br_f h5 ⟨rc_vX hi, br_f (fun q => z ((rc_rd h hi).symm.trans q)) (nm_r (nI_1 x) (h1 post f t hp))⟩,
        fun post g o hp => br_f h5 ⟨rc_vY hy, br_f (fun q => z ((rc_ry hy).symm.trans q)) (nm_r (nI_1 x) (h2 post g o hp))⟩⟩
end
section
/-! runs, and two sets held against each other -/
theorem rc_run {m t a : Nat → Int32} (h : rc_R m t a) {s : Nat} (hs : s < 3) :
    ∀ d x : Nat, x + d = 512 → ∀ c b : Int32, ((x = 0 ∧ b = 0) ∨ (∃ y, x = y + 1 ∧ b = a (s * 512 + y))) → ∃ r : Int32,
      (∀ (post : Int32 → Prop) (f : Int32) (t : Nat → Int32), post r → wX_runs_23 post (nI (s * 512)) f m t (d + 1) c b (nI x)) ∧
      (∀ (post : Int32 → Prop) (g : Int32) (o : Nat → Int32), post r → wY_runs_14 post (nI s) g a o (d + 1) c (nI x)) := by
  intro d
  induction d with
  | zero =>
    intro x hx c b _
    have hg : (512 : Int32) ≤ nI x := rc_ge (by omega) (by omega)
    exact ⟨c, fun _ _ _ hp => br_t hg hp, fun _ _ _ hp => br_t hg hp⟩
  | succ d ih =>
    intro x hx c b hb
    have hi : s * 512 + x < 1536 := by omega
    have hy : s * 512 + x < 2048 := by omega
    have h5 : ¬ (512 : Int32) ≤ nI x := rc_lt (by omega)
    by_cases z : a (s * 512 + x) = 0
    · obtain ⟨r, h1, h2⟩ := ih (x + 1) (by omega) c (a (s * 512 + x)) (Or.inr ⟨x, rfl, rfl⟩)
      exact ⟨r, fun post f t hp => br_f h5 ⟨rc_vX hi, nm_r (rc_rd h hi) (br_t z (nm_r (nI_1 x) (h1 post f t hp)))⟩,
        fun post g o hp => br_f h5 ⟨rc_vY hy, br_t ((rc_ry hy).trans z) (nm_r (nI_1 x) (h2 post g o hp))⟩⟩
    · have zy : ¬ a (512 * nI s + nI x).toNatClampNeg = 0 := fun q => z ((rc_ry hy).symm.trans q)
      rcases hb with ⟨e0, eb⟩ | ⟨y, e1, eb⟩
      · obtain ⟨r, h1, h2⟩ := ih (x + 1) (by omega) (c + 1) (a (s * 512 + x)) (Or.inr ⟨x, rfl, rfl⟩)
        have x0 : nI x = 0 := by rw [e0, nI_0]
        exact ⟨r, fun post f t hp => br_f h5 ⟨rc_vX hi, nm_r (rc_rd h hi) (br_f z (br_t eb (nm_e (nm_r (nI_1 x) (h1 post f t hp)))))⟩,
          fun post g o hp => br_f h5 ⟨rc_vY hy, br_f zy (br_t x0 (nm_e (nm_r (nI_1 x) (h2 post g o hp))))⟩⟩
      · have x0 : ¬ nI x = 0 := nI_ne0 (by omega) (by omega)
        have ei : (512 * nI s + nI x) - 1 = nI (s * 512 + y) := by rw [rc_bY, e1]; exact nI_pred _
        have hv : vp_in ((512 * nI s + nI x) - 1) 2048 := by rw [ei]; exact vp_in_nI (by omega) (by decide)
        have er : a ((512 * nI s + nI x) - 1).toNatClampNeg = b := by rw [ei, nI_clamp (by omega), eb]
        by_cases zb : b = 0
        · obtain ⟨r, h1, h2⟩ := ih (x + 1) (by omega) (c + 1) (a (s * 512 + x)) (Or.inr ⟨x, rfl, rfl⟩)
          exact ⟨r, fun post f t hp => br_f h5 ⟨rc_vX hi, nm_r (rc_rd h hi) (br_f z (br_t zb (nm_e (nm_r (nI_1 x) (h1 post f t hp)))))⟩,
            fun post g o hp => br_f h5 ⟨rc_vY hy, br_f zy (br_f x0 ⟨hv, br_t (er.trans zb) (nm_e (nm_r (nI_1 x) (h2 post g o hp)))⟩)⟩⟩
        · obtain ⟨r, h1, h2⟩ := ih (x + 1) (by omega) c (a (s * 512 + x)) (Or.inr ⟨x, rfl, rfl⟩)
          exact ⟨r, fun post f t hp => br_f h5 ⟨rc_vX hi, nm_r (rc_rd h hi) (br_f z (br_f zb (nm_r (nI_1 x) (h1 post f t hp))))⟩,
            fun post g o hp => br_f h5 ⟨rc_vY hy, br_f zy (br_f x0 ⟨hv, br_f (fun q => zb (er.symm.trans q)) (nm_r (nI_1 x) (h2 post g o hp))⟩)⟩⟩
/-- what join stores: 0 both, 1 either, 2 just one, 3 left only -/
def rc_jn (k : Nat) (x y : Int32) : Int32 :=
  if k = 0 then (if x = 0 then 0 else if y = 0 then 0 else 1)
  else if k = 1 then (if x = 0 then (if y = 0 then 0 else 1) else 1)
  else if k = 2 then (if x = y then 0 else 1)
  else (if x = 0 then 0 else if y = 0 then 1 else 0)
theorem rc_jn01 (k : Nat) (x y : Int32) : rc_01 (rc_jn k x y) := by
  unfold rc_jn rc_01
  repeat' split
  all_goals first | exact Or.inl rfl | exact Or.inr rfl
theorem rc_jX0 {x y r : Int32} {post : Int32 → Prop} (hr : rc_jn 0 x y = r) (hp : post r) : wpX_isJoined post 0 x y := by
  subst hr
  refine br_f (by decide) (br_f (by decide) (br_t rfl ?_))
  by_cases z : x = 0
  · exact br_t z (by simpa [rc_jn, z] using hp)
  · by_cases w : y = 0
    · exact br_f z (br_t w (by simpa [rc_jn, z, w] using hp))
    · exact br_f z (br_f w (by simpa [rc_jn, z, w] using hp))
theorem rc_jX1 {x y r : Int32} {post : Int32 → Prop} (hr : rc_jn 1 x y = r) (hp : post r) : wpX_isJoined post 1 x y := by
  subst hr
  refine br_f (by decide) (br_f (by decide) (br_f (by decide) (br_t rfl ?_)))
  by_cases z : x = 0
  · by_cases w : y = 0
    · exact br_t z (br_t w (by simpa [rc_jn, z, w] using hp))
    · exact br_t z (br_f w (by simpa [rc_jn, z, w] using hp))
  · exact br_f z (by simpa [rc_jn, z] using hp)
theorem rc_jX2 {x y r : Int32} {post : Int32 → Prop} (hr : rc_jn 2 x y = r) (hp : post r) : wpX_isJoined post 2 x y := by
  subst hr
  refine br_f (by decide) (br_f (by decide) (br_f (by decide) (br_f (by decide) (br_t rfl ?_))))
  by_cases z : x = y
  · exact br_t z (by simpa [rc_jn, z] using hp)
  · exact br_f z (by simpa [rc_jn, z] using hp)
theorem rc_jX3 {x y r : Int32} {post : Int32 → Prop} (hr : rc_jn 3 x y = r) (hp : post r) : wpX_isJoined post 3 x y := by
  subst hr
  refine br_f (by decide) (br_t (by decide) ?_)
  by_cases z : x = 0
  · exact br_t z (by simpa [rc_jn, z] using hp)
  · by_cases w : y = 0
    · exact br_f z (br_t w (by simpa [rc_jn, z, w] using hp))
    · exact br_f z (br_f w (by simpa [rc_jn, z, w] using hp))
theorem rc_jX {k : Nat} (hk : k < 4) {x y : Int32} {post : Int32 → Prop} (hp : post (rc_jn k x y)) : wpX_isJoined post (nI k) x y := by
  match k, hk, hp with
  | 0, _, hp => exact rc_jX0 rfl hp
  | 1, _, hp => exact rc_jX1 rfl hp
  | 2, _, hp => exact rc_jX2 rfl hp
  | 3, _, hp => exact rc_jX3 rfl hp
theorem rc_jY {k : Nat} (hk : k < 4) {x y : Int32} {post : Int32 → Prop} {g : Int32} {a o : Nat → Int32} (hp : post (rc_jn k x y)) : wpY_joined post (g, a, o) (nI k) x y := by
  match k, hk, hp with
  | 0, _, hp =>
    refine br_t (by decide +kernel) ?_
    by_cases z : x = 0
    · exact br_t z (by simpa [rc_jn, z] using hp)
    · by_cases w : y = 0
      · exact br_f z (br_t w (by simpa [rc_jn, z, w] using hp))
      · exact br_f z (br_f w (by simpa [rc_jn, z, w] using hp))
  | 1, _, hp =>
    refine br_f (by decide +kernel) (br_t (by decide +kernel) ?_)
    by_cases z : x = 0
    · by_cases w : y = 0
      · exact br_t z (br_t w (by simpa [rc_jn, z, w] using hp))
      · exact br_t z (br_f w (by simpa [rc_jn, z, w] using hp))
    · exact br_f z (by simpa [rc_jn, z] using hp)
  | 2, _, hp =>
    refine br_f (by decide +kernel) (br_f (by decide +kernel) (br_t (by decide +kernel) ?_))
    by_cases z : x = y
    · exact br_t z (by simpa [rc_jn, z] using hp)
    · exact br_f z (by simpa [rc_jn, z] using hp)
  | 3, _, hp =>
    refine br_f (by decide +kernel) (br_f (by decide +kernel) (br_f (by decide +kernel) ?_))
    by_cases z : x = 0
    · exact br_t z (by simpa [rc_jn, z] using hp)
    · by_cases w : y = 0
      · exact br_f z (br_t w (by simpa [rc_jn, z, w] using hp))
      · exact br_f z (br_f w (by simpa [rc_jn, z, w] using hp))
theorem rc_com {m t a : Nat → Int32} (h : rc_R m t a) {s q : Nat} (hs : s < 3) (hq : q < 3) :
    ∀ d x : Nat, x + d = 512 → ∀ c : Int32, ∃ r : Int32,
      (∀ (post : Int32 → Prop) (f : Int32) (t : Nat → Int32), post r → wX_countJoined_20 post 0 (nI (s * 512)) (nI (q * 512)) f m t (d + 1) c (nI x)) ∧
      (∀ (post : Int32 → Prop) (g : Int32) (o : Nat → Int32), post r → wY_common_23 post (nI s) (nI q) g a o (d + 1) c (nI x)) := by
  intro d
  induction d with
  | zero =>
    intro x hx c
    have hg : (512 : Int32) ≤ nI x := rc_ge (by omega) (by omega)
    exact ⟨c, fun _ _ _ hp => br_t hg hp, fun _ _ _ hp => br_t hg hp⟩
  | succ d ih =>
    intro x hx c
    have hi : s * 512 + x < 1536 := by omega
    have hy : s * 512 + x < 2048 := by omega
    have hj : q * 512 + x < 1536 := by omega
    have hw : q * 512 + x < 2048 := by omega
    have h5 : ¬ (512 : Int32) ≤ nI x := rc_lt (by omega)
    by_cases z : a (s * 512 + x) = 0
    · obtain ⟨r, h1, h2⟩ := ih (x + 1) (by omega) c
      exact ⟨r, fun post f t hp => br_f h5 ⟨rc_vX hi, nm_r (rc_rd h hi) ⟨rc_vX hj, nm_r (rc_rd h hj) (rc_jX0 (r := 0) (by simp [rc_jn, z]) (br_t rfl (nm_r (nI_1 x) (h1 post f t hp))))⟩⟩,
        fun post g o hp => br_f h5 ⟨rc_vY hy, br_t ((rc_ry hy).trans z) (nm_r (nI_1 x) (h2 post g o hp))⟩⟩
    · have zy : ¬ a (512 * nI s + nI x).toNatClampNeg = 0 := fun q => z ((rc_ry hy).symm.trans q)
      by_cases w : a (q * 512 + x) = 0
      · obtain ⟨r, h1, h2⟩ := ih (x + 1) (by omega) c
        exact ⟨r, fun post f t hp => br_f h5 ⟨rc_vX hi, nm_r (rc_rd h hi) ⟨rc_vX hj, nm_r (rc_rd h hj) (rc_jX0 (r := 0) (by simp [rc_jn, z, w]) (br_t rfl (nm_r (nI_1 x) (h1 post f t hp))))⟩⟩,
          fun post g o hp => br_f h5 ⟨rc_vY hy, br_f zy ⟨rc_vY hw, br_t ((rc_ry hw).trans w) (nm_r (nI_1 x) (h2 post g o hp))⟩⟩⟩
      · obtain ⟨r, h1, h2⟩ := ih (x + 1) (by omega) (c + 1)
        exact ⟨r, fun post f t hp => br_f h5 ⟨rc_vX hi, nm_r (rc_rd h hi) ⟨rc_vX hj, nm_r (rc_rd h hj) (rc_jX0 (r := 1) (by simp [rc_jn, z, w]) (br_f rc_10 (nm_e (nm_r (nI_1 x) (h1 post f t hp)))))⟩⟩,
          fun post g o hp => br_f h5 ⟨rc_vY hy, br_f zy ⟨rc_vY hw, br_f (fun q => w ((rc_ry hw).symm.trans q)) (nm_e (nm_r (nI_1 x) (h2 post g o hp)))⟩⟩⟩
theorem rc_wit {m t a : Nat → Int32} (h : rc_R m t a) {s q : Nat} (hs : s < 3) (hq : q < 3) :
    ∀ d x : Nat, x + d = 512 → ∀ c : Nat, c + d ≤ 512 → ∃ r : Nat, c ≤ r ∧ r ≤ 512 ∧
      (∀ (post : Int32 → Prop) (f : Int32) (t : Nat → Int32), post (nI r) → wX_countJoined_20 post 3 (nI (s * 512)) (nI (q * 512)) f m t (d + 1) (nI c) (nI x)) ∧
      (∀ (post : Int32 → Prop) (g : Int32) (o : Nat → Int32), post (if r = c then 1 else 0) → wY_within_20 post (nI s) (nI q) g a o (d + 1) (nI x)) := by
  intro d
  induction d with
  | zero =>
    intro x hx c hc
    have hg : (512 : Int32) ≤ nI x := rc_ge (by omega) (by omega)
    exact ⟨c, by omega, by omega, fun _ _ _ hp => br_t hg hp, fun _ _ _ hp => br_t hg (by rwa [if_pos rfl] at hp)⟩
  | succ d ih =>
    intro x hx c hc
    have hi : s * 512 + x < 1536 := by omega
    have hy : s * 512 + x < 2048 := by omega
    have hj : q * 512 + x < 1536 := by omega
    have hw : q * 512 + x < 2048 := by omega
    have h5 : ¬ (512 : Int32) ≤ nI x := rc_lt (by omega)
    by_cases z : a (s * 512 + x) = 0
    · obtain ⟨r, hr1, hr2, h1, h2⟩ := ih (x + 1) (by omega) c (by omega)
      exact ⟨r, hr1, hr2, fun post f t hp => br_f h5 ⟨rc_vX hi, nm_r (rc_rd h hi) ⟨rc_vX hj, nm_r (rc_rd h hj) (rc_jX3 (r := 0) (by simp [rc_jn, z]) (br_t rfl (nm_r (nI_1 x) (h1 post f t hp))))⟩⟩,
        fun post g o hp => br_f h5 ⟨rc_vY hy, br_t ((rc_ry hy).trans z) (nm_r (nI_1 x) (h2 post g o hp))⟩⟩
    · have zy : ¬ a (512 * nI s + nI x).toNatClampNeg = 0 := fun q => z ((rc_ry hy).symm.trans q)
      by_cases w : a (q * 512 + x) = 0
      · obtain ⟨r, hr1, hr2, h1, h2⟩ := ih (x + 1) (by omega) (c + 1) (by omega)
        exact ⟨r, by omega, hr2, fun post f t hp => br_f h5 ⟨rc_vX hi, nm_r (rc_rd h hi) ⟨rc_vX hj, nm_r (rc_rd h hj) (rc_jX3 (r := 1) (by simp [rc_jn, z, w]) (br_f rc_10 (nm_r (nI_1 c) (nm_r (nI_1 x) (h1 post f t hp)))))⟩⟩,
          fun post g o hp => br_f h5 ⟨rc_vY hy, br_f zy ⟨rc_vY hw, br_t ((rc_ry hw).trans w) (by rwa [if_neg (by omega)] at hp)⟩⟩⟩
      · obtain ⟨r, hr1, hr2, h1, h2⟩ := ih (x + 1) (by omega) c (by omega)
        exact ⟨r, hr1, hr2, fun post f t hp => br_f h5 ⟨rc_vX hi, nm_r (rc_rd h hi) ⟨rc_vX hj, nm_r (rc_rd h hj) (rc_jX3 (r := 0) (by simp [rc_jn, z, w]) (br_t rfl (nm_r (nI_1 x) (h1 post f t hp))))⟩⟩,
          fun post g o hp => br_f h5 ⟨rc_vY hy, br_f zy ⟨rc_vY hw, br_f (fun q => w ((rc_ry hw).symm.trans q)) (nm_r (nI_1 x) (h2 post g o hp))⟩⟩⟩
theorem rc_sam {m t a : Nat → Int32} (h : rc_R m t a) {s q : Nat} (hs : s < 3) (hq : q < 3) :
    ∀ d x : Nat, x + d = 512 → ∀ c : Nat, c + d ≤ 512 → ∃ r : Nat, c ≤ r ∧ r ≤ 512 ∧
      (∀ (post : Int32 → Prop) (f : Int32) (t : Nat → Int32), post (nI r) → wX_countJoined_20 post 2 (nI (s * 512)) (nI (q * 512)) f m t (d + 1) (nI c) (nI x)) ∧
      (∀ (post : Int32 → Prop) (g : Int32) (o : Nat → Int32), post (if r = c then 1 else 0) → wY_same_20 post (nI s) (nI q) g a o (d + 1) (nI x)) := by
  intro d
  induction d with
  | zero =>
    intro x hx c hc
    have hg : (512 : Int32) ≤ nI x := rc_ge (by omega) (by omega)
    exact ⟨c, by omega, by omega, fun _ _ _ hp => br_t hg hp, fun _ _ _ hp => br_t hg (by rwa [if_pos rfl] at hp)⟩
  | succ d ih =>
    intro x hx c hc
    have hi : s * 512 + x < 1536 := by omega
    have hy : s * 512 + x < 2048 := by omega
    have hj : q * 512 + x < 1536 := by omega
    have hw : q * 512 + x < 2048 := by omega
    have h5 : ¬ (512 : Int32) ≤ nI x := rc_lt (by omega)
    by_cases z : a (s * 512 + x) = a (q * 512 + x)
    · obtain ⟨r, hr1, hr2, h1, h2⟩ := ih (x + 1) (by omega) c (by omega)
      exact ⟨r, hr1, hr2, fun post f t hp => br_f h5 ⟨rc_vX hi, nm_r (rc_rd h hi) ⟨rc_vX hj, nm_r (rc_rd h hj) (rc_jX2 (r := 0) (by simp [rc_jn, z]) (br_t rfl (nm_r (nI_1 x) (h1 post f t hp))))⟩⟩,
        fun post g o hp => br_f h5 ⟨rc_vY hy, rc_vY hw, br_t ((rc_ry hy).trans (z.trans (rc_ry hw).symm)) (nm_r (nI_1 x) (h2 post g o hp))⟩⟩
    · obtain ⟨r, hr1, hr2, h1, h2⟩ := ih (x + 1) (by omega) (c + 1) (by omega)
      exact ⟨r, by omega, hr2, fun post f t hp => br_f h5 ⟨rc_vX hi, nm_r (rc_rd h hi) ⟨rc_vX hj, nm_r (rc_rd h hj) (rc_jX2 (r := 1) (by simp [rc_jn, z]) (br_f rc_10 (nm_r (nI_1 c) (nm_r (nI_1 x) (h1 post f t hp)))))⟩⟩,
        fun post g o hp => br_f h5 ⟨rc_vY hy, rc_vY hw, br_f (fun e => z ((rc_ry hy).symm.trans (e.trans (rc_ry hw)))) (by rwa [if_neg (by omega)] at hp)⟩⟩
end
section
/-! loops that store, in step -/
theorem rc_b0 : rc_01 0 := Or.inl rfl
theorem rc_b1 : rc_01 1 := Or.inr rfl
theorem rc_uX {m : Nat → Int32} {B x : Nat} (h : B + x < 1536) {w : Int32} (hw : rc_01 w) : upd m (nI B + nI x).toNatClampNeg (vp_nar .boolean w) = upd m (B + x) w := by
  rw [rc_iX h, rc_nar hw]
theorem rc_uY {a : Nat → Int32} {s x : Nat} (h : s * 512 + x < 2048) {w : Int32} (hw : rc_01 w) : upd a (512 * nI s + nI x).toNatClampNeg (vp_nar .boolean w) = upd a (s * 512 + x) w := by
  rw [rc_iY h, rc_nar hw]
theorem rc_sY {s : Nat} (hs : s < 3) {post : Int32 → Prop} {g : Int32} {a o : Nat → Int32} (hp : post 0) : wpY_badSet post (g, a, o) (nI s) :=
  br_f (nI_pos (by omega)) (br_t (nI_le (b := 2) (by omega) (by decide)) hp)
theorem rc_nY {x : Nat} (hx : x < 512) {post : Int32 → Prop} {g : Int32} {a o : Nat → Int32} (hp : post 0) : wpY_badNumber post (g, a, o) (nI x) :=
  br_f (nI_pos (by omega)) (br_t (by rw [← rc_511]; exact nI_le (by omega) (by decide)) hp)
theorem rc_nYb {x : Nat} (hx : 512 ≤ x) (hx2 : x < 2 ^ 31) {post : Int32 → Prop} {g : Int32} {a o : Nat → Int32} (hp : post 1) : wpY_badNumber post (g, a, o) (nI x) :=
  br_f (nI_pos hx2) (br_f (by rw [← rc_511]; exact nI_ge (by omega) hx2) hp)
theorem rc_addY {s x : Nat} (hs : s < 3) (hx : x < 512) {post : Int32 → SY → Prop} {g : Int32} {a o : Nat → Int32}
    (hp : post (if a (s * 512 + x) = 0 then 1 else 0) (g, upd a (s * 512 + x) 1, o)) : wpY_add post (g, a, o) (nI s) (nI x) := by
  have hy : s * 512 + x < 2048 := by omega
  unfold wpY_add
  dsimp only
  refine rc_sY hs (br_t rfl (rc_nY hx (br_t rfl ⟨rc_vY hy, ?_⟩)))
  by_cases z : a (s * 512 + x) = 0
  · rw [if_pos z] at hp
    exact br_t ((rc_ry hy).trans z) ⟨rc_vY hy, nm_r (rc_uY hy rc_b1) hp⟩
  · rw [if_neg z] at hp
    exact br_f (fun q => z ((rc_ry hy).symm.trans q)) ⟨rc_vY hy, nm_r (rc_uY hy rc_b1) hp⟩
theorem rc_addYb {s x : Nat} (hs : s < 3) (hx : 512 ≤ x) (hx2 : x < 2 ^ 31) {post : Int32 → SY → Prop} {g : Int32} {a o : Nat → Int32}
    (hp : post (-2) (g, a, o)) : wpY_add post (g, a, o) (nI s) (nI x) := by
  unfold wpY_add
  dsimp only
  exact rc_sY hs (br_t rfl (rc_nYb hx hx2 (br_f rc_10 hp)))
theorem rc_remY {s x : Nat} (hs : s < 3) (hx : x < 512) {post : Int32 → SY → Prop} {g : Int32} {a o : Nat → Int32}
    (hp : post (if a (s * 512 + x) = 0 then 0 else 1) (g, upd a (s * 512 + x) 0, o)) : wpY_remove post (g, a, o) (nI s) (nI x) := by
  have hy : s * 512 + x < 2048 := by omega
  unfold wpY_remove
  dsimp only
  refine rc_sY hs (br_t rfl (rc_nY hx (br_t rfl ⟨rc_vY hy, ?_⟩)))
  by_cases z : a (s * 512 + x) = 0
  · rw [if_pos z] at hp
    exact br_t ((rc_ry hy).trans z) ⟨rc_vY hy, nm_r (rc_uY hy rc_b0) hp⟩
  · rw [if_neg z] at hp
    exact br_f (fun q => z ((rc_ry hy).symm.trans q)) ⟨rc_vY hy, nm_r (rc_uY hy rc_b0) hp⟩
/-- assign over one number -/
theorem rc_as1 {m t a : Nat → Int32} (h : rc_R m t a) {s x : Nat} (hs : s < 3) (hx : x < 512) {w : Int32} (z : a (s * 512 + x) = w) {post : Int32 → SX → Prop} {f : Int32}
    (hp : post 0 (f, m, t)) : wpX_assign post (f, m, t) (nI s) (nI x) (nI x) w := by
  have hi : s * 512 + x < 1536 := by omega
  have hn : ¬ nI x < nI x := nI_nlt (by omega) (by omega)
  have hg : nI x < nI (x + 1) := nI_lt (by omega) (by omega)
  unfold wpX_assign
  dsimp only
  exact nm_r (rc_bX s) ⟨2, br_f hn ⟨rc_vX hi, br_t ((rc_rd h hi).trans z) (nm_r (nI_1 x) (br_t hg hp))⟩⟩
theorem rc_as2 {m t a : Nat → Int32} (h : rc_R m t a) {s x : Nat} (hs : s < 3) (hx : x < 512) {w : Int32} (hw : rc_01 w) (z : ¬ a (s * 512 + x) = w) {post : Int32 → SX → Prop} {f : Int32}
    (hp : post 1 (f, upd m (s * 512 + x) w, t)) : wpX_assign post (f, m, t) (nI s) (nI x) (nI x) w := by
  have hi : s * 512 + x < 1536 := by omega
  have hn : ¬ nI x < nI x := nI_nlt (by omega) (by omega)
  have hg : nI x < nI (x + 1) := nI_lt (by omega) (by omega)
  unfold wpX_assign
  dsimp only
  exact nm_r (rc_bX s) ⟨2, br_f hn ⟨rc_vX hi, br_f (fun q => z ((rc_rd h hi).symm.trans q)) ⟨rc_vX hi, nm_r (rc_uX hi hw) (nm_r (e' := 1) (by decide) (nm_r (nI_1 x) (br_t hg hp)))⟩⟩⟩
theorem rc_fil {t : Nat → Int32} {s L : Nat} (hs : s < 3) (hL : L < 512) :
    ∀ d x : Nat, x + d = L + 1 → ∀ (c : Int32) (m a : Nat → Int32), rc_R m t a → ∃ (r : Int32) (m' a' : Nat → Int32), rc_R m' t a' ∧
      (∀ (post : Int32 → SX → Prop) (f : Int32), post r (f, m', t) → wX_assign_13 post (nI L) 1 (nI (s * 512)) f (d + 1) c (nI x) m t) ∧
      (∀ (post : Int32 → SY → Prop) (g : Int32) (o : Nat → Int32), post r (g, a', o) → wY_fill_28 post (nI s) (nI L) (d + 1) c (nI x) g a o) := by
  intro d
  induction d with
  | zero =>
    intro x hx c m a h
    have hg : nI L < nI x := nI_lt (by omega) (by omega)
    exact ⟨c, m, a, h, fun _ _ hp => br_t hg hp, fun _ _ _ hp => br_t hg hp⟩
  | succ d ih =>
    intro x hx c m a h
    have hi : s * 512 + x < 1536 := by omega
    have hn : ¬ nI L < nI x := nI_nlt (by omega) (by omega)
    by_cases z : a (s * 512 + x) = 1
    · obtain ⟨r, m', a', hR, h1, h2⟩ := ih (x + 1) (by omega) c m (upd a (s * 512 + x) 1) (rc_R_updY h hi z)
      refine ⟨r, m', a', hR, fun post f hp => br_f hn ⟨rc_vX hi, br_t ((rc_rd h hi).trans z) (nm_r (nI_1 x) (h1 post f hp))⟩, fun post g o hp => br_f hn (rc_addY hs (by omega) ?_)⟩
      exact nm_r (e' := c) (by rw [if_neg (by rw [z]; exact rc_10), Int32.add_zero]) (nm_r (nI_1 x) (h2 post g o hp))
    · obtain ⟨r, m', a', hR, h1, h2⟩ := ih (x + 1) (by omega) (c + 1) (upd m (s * 512 + x) 1) (upd a (s * 512 + x) 1) (rc_R_upd h hi rc_b1)
      refine ⟨r, m', a', hR, fun post f hp => br_f hn ⟨rc_vX hi, br_f (fun q => z ((rc_rd h hi).symm.trans q)) ⟨rc_vX hi, nm_r (rc_uX hi rc_b1) (nm_e (nm_r (nI_1 x) (h1 post f hp)))⟩⟩, fun post g o hp => br_f hn (rc_addY hs (by omega) ?_)⟩
      exact nm_r (e' := c + 1) (by rw [if_pos ((h.2.2 _ (by omega)).resolve_right z)]) (nm_r (nI_1 x) (h2 post g o hp))
theorem rc_clr {t : Nat → Int32} {s L : Nat} (hs : s < 3) (hL : L < 512) :
    ∀ d x : Nat, x + d = L + 1 → ∀ (c : Int32) (m a : Nat → Int32), rc_R m t a → ∃ (r : Int32) (m' a' : Nat → Int32), rc_R m' t a' ∧
      (∀ (post : Int32 → SX → Prop) (f : Int32), post r (f, m', t) → wX_assign_13 post (nI L) 0 (nI (s * 512)) f (d + 1) c (nI x) m t) ∧
      (∀ (post : Int32 → SY → Prop) (g : Int32) (o : Nat → Int32), post r (g, a', o) → wY_clear_28 post (nI s) (nI L) (d + 1) c (nI x) g a o) := by
  intro d
  induction d with
  | zero =>
    intro x hx c m a h
    have hg : nI L < nI x := nI_lt (by omega) (by omega)
    exact ⟨c, m, a, h, fun _ _ hp => br_t hg hp, fun _ _ _ hp => br_t hg hp⟩
  | succ d ih =>
    intro x hx c m a h
    have hi : s * 512 + x < 1536 := by omega
    have hn : ¬ nI L < nI x := nI_nlt (by omega) (by omega)
    by_cases z : a (s * 512 + x) = 0
    · obtain ⟨r, m', a', hR, h1, h2⟩ := ih (x + 1) (by omega) c m (upd a (s * 512 + x) 0) (rc_R_updY h hi z)
      refine ⟨r, m', a', hR, fun post f hp => br_f hn ⟨rc_vX hi, br_t ((rc_rd h hi).trans z) (nm_r (nI_1 x) (h1 post f hp))⟩, fun post g o hp => br_f hn (rc_remY hs (by omega) ?_)⟩
      exact nm_r (e' := c) (by rw [if_pos z, Int32.add_zero]) (nm_r (nI_1 x) (h2 post g o hp))
    · obtain ⟨r, m', a', hR, h1, h2⟩ := ih (x + 1) (by omega) (c + 1) (upd m (s * 512 + x) 0) (upd a (s * 512 + x) 0) (rc_R_upd h hi rc_b0)
      refine ⟨r, m', a', hR, fun post f hp => br_f hn ⟨rc_vX hi, br_f (fun q => z ((rc_rd h hi).symm.trans q)) ⟨rc_vX hi, nm_r (rc_uX hi rc_b0) (nm_e (nm_r (nI_1 x) (h1 post f hp)))⟩⟩, fun post g o hp => br_f hn (rc_remY hs (by omega) ?_)⟩
      exact nm_r (e' := c + 1) (by rw [if_neg z]) (nm_r (nI_1 x) (h2 post g o hp))
theorem rc_flp {t : Nat → Int32} {s L : Nat} (hs : s < 3) (hL : L < 512) :
    ∀ d x : Nat, x + d = L + 1 → ∀ m a : Nat → Int32, rc_R m t a → ∃ (r : Int32) (m' a' : Nat → Int32), rc_R m' t a' ∧
      (∀ (post : Int32 → SX → Prop) (f : Int32), post r (f, m', t) → wX_flip_30 post (nI s) (nI L) (nI (s * 512)) f (d + 1) (nI x) m t) ∧
      (∀ (post : Int32 → SY → Prop) (g : Int32) (o : Nat → Int32), post r (g, a', o) → wY_flip_25 post (nI s) (nI L) g (d + 1) (nI x) a o) := by
  intro d
  induction d with
  | zero =>
    intro x hx m a h
    have hg : nI L < nI x := nI_lt (by omega) (by omega)
    obtain ⟨r, c1, c2⟩ := rc_count h hs
    exact ⟨r, m, a, h, fun post f hp => br_t hg (c1 (fun r => post r (f, m, t)) f t hp), fun post g o hp => br_t hg (c2 (fun r => post r (g, a, o)) g o hp)⟩
  | succ d ih =>
    intro x hx m a h
    have hi : s * 512 + x < 1536 := by omega
    have hy : s * 512 + x < 2048 := by omega
    have hn : ¬ nI L < nI x := nI_nlt (by omega) (by omega)
    by_cases z : a (s * 512 + x) = 0
    · obtain ⟨r, m', a', hR, h1, h2⟩ := ih (x + 1) (by omega) (upd m (s * 512 + x) 1) (upd a (s * 512 + x) 1) (rc_R_upd h hi rc_b1)
      exact ⟨r, m', a', hR, fun post f hp => br_f hn ⟨rc_vX hi, br_t ((rc_rd h hi).trans z) ⟨rc_vX hi, nm_r (rc_uX hi rc_b1) (nm_r (nI_1 x) (h1 post f hp))⟩⟩,
        fun post g o hp => br_f hn ⟨rc_vY hy, br_t ((rc_ry hy).trans z) ⟨rc_vY hy, nm_r (rc_uY hy rc_b1) (nm_r (nI_1 x) (h2 post g o hp))⟩⟩⟩
    · obtain ⟨r, m', a', hR, h1, h2⟩ := ih (x + 1) (by omega) (upd m (s * 512 + x) 0) (upd a (s * 512 + x) 0) (rc_R_upd h hi rc_b0)
      exact ⟨r, m', a', hR, fun post f hp => br_f hn ⟨rc_vX hi, br_f (fun q => z ((rc_rd h hi).symm.trans q)) ⟨rc_vX hi, nm_r (rc_uX hi rc_b0) (nm_r (nI_1 x) (h1 post f hp))⟩⟩,
        fun post g o hp => br_f hn ⟨rc_vY hy, br_f (fun q => z ((rc_ry hy).symm.trans q)) ⟨rc_vY hy, nm_r (rc_uY hy rc_b0) (nm_r (nI_1 x) (h2 post g o hp))⟩⟩⟩
theorem rc_sow {t : Nat → Int32} {s p q C : Nat} (hs : s < 3) (hp : p < 512) (hq : q ≤ 100) (hC : C ≤ 200) :
    ∀ d x : Nat, x + d = C → ∀ m a : Nat → Int32, rc_R m t a → ∃ (r : Int32) (m' a' : Nat → Int32), rc_R m' t a' ∧
      (∀ (post : Int32 → SX → Prop) (f : Int32), post r (f, m', t) → wX_sow_76 post (nI s) (nI p) (nI q) (nI C) (nI (s * 512)) f (d + 1) (nI x) m t) ∧
      (∀ (post : Int32 → SY → Prop) (g : Int32) (o : Nat → Int32), post r (g, a', o) → wY_sow_78 post (nI s) (nI p) (nI q) (nI C) (d + 1) (nI x) g a o) := by
  intro d
  induction d with
  | zero =>
    intro x hx m a h
    have hg : nI C ≤ nI x := nI_le (by omega) (by omega)
    obtain ⟨r, c1, c2⟩ := rc_count h hs
    exact ⟨r, m, a, h, fun post f hp => br_t hg (c1 (fun r => post r (f, m, t)) f t hp), fun post g o hp => br_t hg (c2 (fun r => post r (g, a, o)) g o hp)⟩
  | succ d ih =>
    intro x hx m a h
    have hb : x * q ≤ 200 * 100 := Nat.mul_le_mul (by omega) hq
    have ey : nI p + nI x * nI q = nI (p + x * q) := by rw [pk_mul, nI_add]
    have hn : ¬ nI C ≤ nI x := nI_ge (by omega) (by omega)
    have hy31 : p + x * q < 2 ^ 31 := by omega
    generalize p + x * q = y at ey hy31
    by_cases z : y < 512
    · have hi : s * 512 + y < 1536 := by omega
      obtain ⟨r, m', a', hR, h1, h2⟩ := ih (x + 1) (by omega) (upd m (s * 512 + y) 1) (upd a (s * 512 + y) 1) (rc_R_upd h hi rc_b1)
      refine ⟨r, m', a', hR, fun post f hp => br_f hn (nm_r ey (br_f (rc_lt z) ⟨rc_vX hi, nm_r (rc_uX hi rc_b1) (nm_r (nI_1 x) (h1 post f hp))⟩)), fun post g o hp => br_f hn ?_⟩
      rw [ey]
      refine rc_addY hs z ?_
      exact nm_r (nI_1 x) (h2 post g o hp)
    · obtain ⟨r, m', a', hR, h1, h2⟩ := ih (x + 1) (by omega) m a h
      refine ⟨r, m', a', hR, fun post f hp => br_f hn (nm_r ey (br_t (rc_ge (by omega) hy31) (nm_r (nI_1 x) (h1 post f hp)))), fun post g o hp => br_f hn ?_⟩
      rw [ey]
      refine rc_addYb hs (by omega) hy31 ?_
      exact nm_r (nI_1 x) (h2 post g o hp)
theorem rc_joi {t : Nat → Int32} {k s q : Nat} (hk : k < 4) (hs : s < 3) (hq : q < 3) :
    ∀ d x : Nat, x + d = 512 → ∀ m a : Nat → Int32, rc_R m t a → ∃ (r : Int32) (m' a' : Nat → Int32), rc_R m' t a' ∧
      (∀ (post : Int32 → SX → Prop) (f : Int32), post r (f, m', t) → wX_join_45 post (nI k) (nI s) (nI (s * 512)) (nI (q * 512)) f (d + 1) (nI x) m t) ∧
      (∀ (post : Int32 → SY → Prop) (g : Int32) (o : Nat → Int32), post r (g, a', o) → wY_join_33 post (nI k) (nI s) (nI q) g (d + 1) (nI x) a o) := by
  intro d
  induction d with
  | zero =>
    intro x hx m a h
    have hg : (512 : Int32) ≤ nI x := rc_ge (by omega) (by omega)
    obtain ⟨r, c1, c2⟩ := rc_count h hs
    exact ⟨r, m, a, h, fun post f hp => br_t hg (c1 (fun r => post r (f, m, t)) f t hp), fun post g o hp => br_t hg (c2 (fun r => post r (g, a, o)) g o hp)⟩
  | succ d ih =>
    intro x hx m a h
    have hi : s * 512 + x < 1536 := by omega
    have hy : s * 512 + x < 2048 := by omega
    have hj : q * 512 + x < 1536 := by omega
    have hw : q * 512 + x < 2048 := by omega
    have h5 : ¬ (512 : Int32) ≤ nI x := rc_lt (by omega)
    have h01 := rc_jn01 k (a (s * 512 + x)) (a (q * 512 + x))
    obtain ⟨r, m', a', hR, h1, h2⟩ := ih (x + 1) (by omega) (upd m (s * 512 + x) (rc_jn k (a (s * 512 + x)) (a (q * 512 + x)))) (upd a (s * 512 + x) (rc_jn k (a (s * 512 + x)) (a (q * 512 + x)))) (rc_R_upd h hi h01)
    refine ⟨r, m', a', hR, fun post f hp => br_f h5 ⟨rc_vX hi, nm_r (rc_rd h hi) ⟨rc_vX hj, nm_r (rc_rd h hj) (rc_jX hk ⟨rc_vX hi, nm_r (rc_uX hi h01) (nm_r (nI_1 x) (h1 post f hp))⟩)⟩⟩,
      fun post g o hp => br_f h5 ⟨rc_vY hy, rc_vY hw, ?_⟩⟩
    rw [rc_ry (a := a) hy, rc_ry (a := a) hw]
    exact rc_jY hk ⟨rc_vY hy, nm_r (rc_uY hy h01) (nm_r (nI_1 x) (h2 post g o hp))⟩
theorem rc_wri {m : Nat → Int32} {s : Nat} (hs : s < 3) :
    ∀ d x : Nat, x + d = 512 → ∀ t a : Nat → Int32, rc_R m t a → ∃ t' a' : Nat → Int32, rc_R m t' a' ∧
      (∀ (post : Int32 → SX → Prop) (f : Int32), post 0 (1, m, t') → wX_write_17 post (nI (s * 512)) f (d + 1) (nI x) m t) ∧
      (∀ (post : SY → Prop) (g : Int32) (o : Nat → Int32), post (g, a', o) → wY_copy_2 post (nI s) 3 g (d + 1) (nI x) a o) := by
  intro d
  induction d with
  | zero =>
    intro x hx t a h
    have hg : (512 : Int32) ≤ nI x := rc_ge (by omega) (by omega)
    exact ⟨t, a, h, fun _ _ hp => br_t hg hp, fun _ _ _ hp => br_t hg hp⟩
  | succ d ih =>
    intro x hx t a h
    have hi : s * 512 + x < 1536 := by omega
    have hy : s * 512 + x < 2048 := by omega
    have hx5 : x < 512 := by omega
    have h5 : ¬ (512 : Int32) ≤ nI x := rc_lt hx5
    have h01 := h.2.2 _ hy
    obtain ⟨t', a', hR, h1, h2⟩ := ih (x + 1) (by omega) (upd t x (a (s * 512 + x))) (upd a (1536 + x) (a (s * 512 + x))) (rc_R_updT h hx5 h01)
    exact ⟨t', a', hR, fun post f hp => br_f h5 ⟨rc_vX hi, vp_in_nI hx5 (by decide), nm_r (by rw [rc_rd h hi, rc_nar h01, nI_clamp (by omega)]) (nm_r (nI_1 x) (h1 post f hp))⟩,
      fun post g o hp => br_f h5 ⟨rc_vY hy, rc_v3 hx5, nm_r (by rw [rc_i3 hx5, rc_ry (a := a) hy, rc_nar h01]) (nm_r (nI_1 x) (h2 post g o hp))⟩⟩
theorem rc_rea {t : Nat → Int32} {s : Nat} (hs : s < 3) :
    ∀ d x : Nat, x + d = 512 → ∀ m a : Nat → Int32, rc_R m t a → ∃ (r : Int32) (m' a' : Nat → Int32), rc_R m' t a' ∧
      (∀ (post : Int32 → SX → Prop) (f : Int32), post r (f, m', t) → wX_read_27 post (nI s) (nI (s * 512)) f (d + 1) (nI x) m t) ∧
      (∀ (post : SY → Prop) (g : Int32) (o : Nat → Int32), post (g, a', o) → wY_copy_2 post 3 (nI s) g (d + 1) (nI x) a o) ∧
      (∀ (post : Int32 → Prop) (g : Int32) (o : Nat → Int32), post r → wpY_many post (g, a', o) (nI s)) := by
  intro d
  induction d with
  | zero =>
    intro x hx m a h
    have hg : (512 : Int32) ≤ nI x := rc_ge (by omega) (by omega)
    obtain ⟨r, c1, c2⟩ := rc_count h hs
    exact ⟨r, m, a, h, fun post f hp => br_t hg (c1 (fun r => post r (f, m, t)) f t hp), fun post g o hp => br_t hg hp, c2⟩
  | succ d ih =>
    intro x hx m a h
    have hi : s * 512 + x < 1536 := by omega
    have hy : s * 512 + x < 2048 := by omega
    have hx5 : x < 512 := by omega
    have h5 : ¬ (512 : Int32) ≤ nI x := rc_lt hx5
    have h01 := h.2.2 (1536 + x) (by omega)
    obtain ⟨r, m', a', hR, h1, h2, h3⟩ := ih (x + 1) (by omega) (upd m (s * 512 + x) (a (1536 + x))) (upd a (s * 512 + x) (a (1536 + x))) (rc_R_upd h hi h01)
    exact ⟨r, m', a', hR, fun post f hp => br_f h5 ⟨vp_in_nI hx5 (by decide), rc_vX hi, nm_r (by rw [nI_clamp (by omega), h.2.1 x hx5, rc_uX hi h01]) (nm_r (nI_1 x) (h1 post f hp))⟩,
      fun post g o hp => br_f h5 ⟨rc_v3 hx5, rc_vY hy, nm_r (by rw [rc_i3 hx5, rc_uY hy h01]) (nm_r (nI_1 x) (h2 post g o hp))⟩, h3⟩
end
section
/-! shift: each side against one picture -/
def rc_up (a : Nat → Int32) (B d i : Nat) : Int32 := if B ≤ i ∧ i < B + 512 then (if B + d ≤ i then a (i - d) else 0) else a i
def rc_dn (a : Nat → Int32) (B d i : Nat) : Int32 := if B ≤ i ∧ i < B + 512 then (if i + d < B + 512 then a (i + d) else 0) else a i
theorem rc_upO {a : Nat → Int32} {B d i : Nat} (h : ¬ (B ≤ i ∧ i < B + 512)) : rc_up a B d i = a i := if_neg h
theorem rc_dnO {a : Nat → Int32} {B d i : Nat} (h : ¬ (B ≤ i ∧ i < B + 512)) : rc_dn a B d i = a i := if_neg h
theorem rc_upZ {a : Nat → Int32} {B d x : Nat} (hx : x < 512) (h : x < d) : rc_up a B d (B + x) = 0 := by
  unfold rc_up
  rw [if_pos (by omega), if_neg (by omega)]
theorem rc_upV {a : Nat → Int32} {B d x : Nat} (hx : x < 512) (h : d ≤ x) : rc_up a B d (B + x) = a (B + (x - d)) := by
  unfold rc_up
  rw [if_pos (by omega), if_pos (by omega)]
  exact congrArg a (by omega)
theorem rc_dnZ {a : Nat → Int32} {B d x : Nat} (hx : x < 512) (h : 512 ≤ x + d) : rc_dn a B d (B + x) = 0 := by
  unfold rc_dn
  rw [if_pos (by omega), if_neg (by omega)]
theorem rc_dnV {a : Nat → Int32} {B d x : Nat} (hx : x < 512) (h : x + d < 512) : rc_dn a B d (B + x) = a (B + (x + d)) := by
  unfold rc_dn
  rw [if_pos (by omega), if_pos (by omega)]
  exact congrArg a (by omega)
theorem rc_stU {a m : Nat → Int32} {B d x : Nat} (hI : ∀ i, i < 1536 → m i = if i < B + (x + 1) then a i else rc_up a B d i) {w : Int32} (hw : rc_up a B d (B + x) = w) :
    ∀ i, i < 1536 → upd m (B + x) w i = if i < B + x then a i else rc_up a B d i := by
  intro i hi
  by_cases e : i = B + x
  · rw [e, pk_us, if_neg (by omega), hw]
  · rw [pk_un e, hI i hi]
    by_cases l : i < B + x
    · rw [if_pos l, if_pos (by omega)]
    · rw [if_neg l, if_neg (by omega)]
theorem rc_stD {a m : Nat → Int32} {B d x : Nat} (hI : ∀ i, i < 1536 → m i = if i < B + x then rc_dn a B d i else a i) {w : Int32} (hw : rc_dn a B d (B + x) = w) :
    ∀ i, i < 1536 → upd m (B + x) w i = if i < B + (x + 1) then rc_dn a B d i else a i := by
  intro i hi
  by_cases e : i = B + x
  · rw [e, pk_us, if_pos (by omega), hw]
  · rw [pk_un e, hI i hi]
    by_cases l : i < B + x
    · rw [if_pos l, if_pos (by omega)]
    · rw [if_neg l, if_neg (by omega)]
theorem rc_mvU {a t : Nat → Int32} (h01 : ∀ i, i < 2048 → rc_01 (a i)) {s d : Nat} (hs : s < 3) (hd : 0 < d) (hd2 : d < 512) :
    ∀ k : Nat, k ≤ 512 → ∀ m : Nat → Int32, (∀ i, i < 1536 → m i = if i < s * 512 + k then a i else rc_up a (s * 512) d i) →
      ∃ m' : Nat → Int32, (∀ i, i < 1536 → m' i = rc_up a (s * 512) d i) ∧
        (∀ (post : SX → Prop) (f : Int32), post (f, m', t) → wX_moveUp_11 post (nI d) (nI (s * 512)) f (k + 1) (nI k + (-1)) m t) := by
  intro k
  induction k with
  | zero =>
    intro _ m hI
    refine ⟨m, fun i hi => ?_, fun _ _ hp => br_t rc_neg hp⟩
    rw [hI i hi]
    by_cases l : i < s * 512 + 0
    · rw [if_pos l, rc_upO (by omega)]
    · rw [if_neg l]
  | succ x ih =>
    intro hx m hI
    have hi : s * 512 + x < 1536 := by omega
    have h5 : ¬ nI x < 0 := nI_pos (by omega)
    rw [pk_m1]
    by_cases l : x < d
    · obtain ⟨m', hm, h1⟩ := ih (by omega) (upd m (s * 512 + x) 0) (rc_stU hI (rc_upZ (by omega) l))
      exact ⟨m', hm, fun post f hp => br_f h5 (nm_e (br_t (pk_sneg (by omega) l) ⟨rc_vX hi, nm_r (rc_uX hi rc_b0) (nm_e (h1 post f hp))⟩))⟩
    · have hj : s * 512 + (x - d) < 1536 := by omega
      have er : m (nI (s * 512) + nI (x - d)).toNatClampNeg = a (s * 512 + (x - d)) := by
        rw [rc_iX hj, hI _ hj, if_pos (by omega)]
      have ev : rc_up a (s * 512) d (s * 512 + x) = a (s * 512 + (x - d)) := rc_upV (by omega) (by omega)
      by_cases z : a (s * 512 + (x - d)) = 0
      · obtain ⟨m', hm, h1⟩ := ih (by omega) (upd m (s * 512 + x) 0) (rc_stU hI (ev.trans z))
        exact ⟨m', hm, fun post f hp => br_f h5 (nm_r (pk_sub (by omega)) (br_f (nI_pos (by omega)) ⟨rc_vX hj, br_t (er.trans z) ⟨rc_vX hi, nm_r (rc_uX hi rc_b0) (nm_e (h1 post f hp))⟩⟩))⟩
      · obtain ⟨m', hm, h1⟩ := ih (by omega) (upd m (s * 512 + x) 1) (rc_stU hI (ev.trans (rc_one (h01 _ (by omega)) z)))
        exact ⟨m', hm, fun post f hp => br_f h5 (nm_r (pk_sub (by omega)) (br_f (nI_pos (by omega)) ⟨rc_vX hj, br_f (fun q => z (er.symm.trans q)) ⟨rc_vX hi, nm_r (rc_uX hi rc_b1) (nm_e (h1 post f hp))⟩⟩))⟩
theorem rc_mvD {a t : Nat → Int32} (h01 : ∀ i, i < 2048 → rc_01 (a i)) {s d : Nat} (hs : s < 3) (hd2 : d < 512) :
    ∀ n x : Nat, x + n = 512 → ∀ m : Nat → Int32, (∀ i, i < 1536 → m i = if i < s * 512 + x then rc_dn a (s * 512) d i else a i) →
      ∃ m' : Nat → Int32, (∀ i, i < 1536 → m' i = rc_dn a (s * 512) d i) ∧
        (∀ (post : SX → Prop) (f : Int32), post (f, m', t) → wX_moveDown_9 post (nI d) (nI (s * 512)) f (n + 1) (nI x) m t) := by
  intro n
  induction n with
  | zero =>
    intro x hx m hI
    have hg : (512 : Int32) ≤ nI x := rc_ge (by omega) (by omega)
    refine ⟨m, fun i hi => ?_, fun _ _ hp => br_t hg hp⟩
    rw [hI i hi]
    by_cases l : i < s * 512 + x
    · rw [if_pos l]
    · rw [if_neg l, rc_dnO (by omega)]
  | succ n ih =>
    intro x hx m hI
    have hi : s * 512 + x < 1536 := by omega
    have h5 : ¬ (512 : Int32) ≤ nI x := rc_lt (by omega)
    by_cases l : 512 ≤ x + d
    · obtain ⟨m', hm, h1⟩ := ih (x + 1) (by omega) (upd m (s * 512 + x) 0) (rc_stD hI (rc_dnZ (by omega) l))
      exact ⟨m', hm, fun post f hp => br_f h5 (nm_r (nI_add x d) (br_t (rc_ge l (by omega)) ⟨rc_vX hi, nm_r (rc_uX hi rc_b0) (nm_r (nI_1 x) (h1 post f hp))⟩))⟩
    · have hj : s * 512 + (x + d) < 1536 := by omega
      have er : m (nI (s * 512) + nI (x + d)).toNatClampNeg = a (s * 512 + (x + d)) := by
        rw [rc_iX hj, hI _ hj, if_neg (by omega)]
      have ev : rc_dn a (s * 512) d (s * 512 + x) = a (s * 512 + (x + d)) := rc_dnV (by omega) (by omega)
      by_cases z : a (s * 512 + (x + d)) = 0
      · obtain ⟨m', hm, h1⟩ := ih (x + 1) (by omega) (upd m (s * 512 + x) 0) (rc_stD hI (ev.trans z))
        exact ⟨m', hm, fun post f hp => br_f h5 (nm_r (nI_add x d) (br_f (rc_lt (by omega)) ⟨rc_vX hj, br_t (er.trans z) ⟨rc_vX hi, nm_r (rc_uX hi rc_b0) (nm_r (nI_1 x) (h1 post f hp))⟩⟩))⟩
      · obtain ⟨m', hm, h1⟩ := ih (x + 1) (by omega) (upd m (s * 512 + x) 1) (rc_stD hI (ev.trans (rc_one (h01 _ (by omega)) z)))
        exact ⟨m', hm, fun post f hp => br_f h5 (nm_r (nI_add x d) (br_f (rc_lt (by omega)) ⟨rc_vX hj, br_f (fun q => z (er.symm.trans q)) ⟨rc_vX hi, nm_r (rc_uX hi rc_b1) (nm_r (nI_1 x) (h1 post f hp))⟩⟩))⟩
/-- the reference copies the set to old -/
theorem rc_shO {a : Nat → Int32} (h01 : ∀ i, i < 2048 → rc_01 (a i)) {s : Nat} (hs : s < 3) (p : Int32) :
    ∀ n x : Nat, x + n = 512 → ∀ o : Nat → Int32, (∀ y, y < x → o y = a (s * 512 + y)) → ∃ o' : Nat → Int32, (∀ y, y < 512 → o' y = a (s * 512 + y)) ∧
      (∀ (post : Int32 → SY → Prop) (g : Int32), (∃ n62 : Nat, wY_shift_62 post (nI s) p g n62 0 a o') → wY_shift_29 post (nI s) p g (n + 1) (nI x) a o) := by
  intro n
  induction n with
  | zero =>
    intro x hx o hI
    have hg : (512 : Int32) ≤ nI x := rc_ge (by omega) (by omega)
    exact ⟨o, fun y hy => hI y (by omega), fun _ _ hp => br_t hg hp⟩
  | succ n ih =>
    intro x hx o hI
    have hy : s * 512 + x < 2048 := by omega
    have h5 : ¬ (512 : Int32) ≤ nI x := rc_lt (by omega)
    obtain ⟨o', ho, h1⟩ := ih (x + 1) (by omega) (upd o x (a (s * 512 + x))) (fun y hy => by
      by_cases e : y = x
      · rw [e, pk_us]
      · rw [pk_un e]; exact hI y (by omega))
    exact ⟨o', ho, fun post g hp => br_f h5 ⟨rc_vY hy, vp_in_nI (by omega) (by decide), nm_r (by rw [rc_ry (a := a) hy, rc_nar (h01 _ hy), nI_clamp (by omega)]) (nm_r (nI_1 x) (h1 post g hp))⟩⟩
theorem rc_stI {a a0 T : Nat → Int32} {B x : Nat} (hI : ∀ i, i < 2048 → a i = if B ≤ i ∧ i < B + x then T i else a0 i) {w : Int32} (hw : T (B + x) = w) :
    ∀ i, i < 2048 → upd a (B + x) w i = if B ≤ i ∧ i < B + (x + 1) then T i else a0 i := by
  intro i hi
  by_cases e : i = B + x
  · rw [e, pk_us, if_pos (by omega), hw]
  · rw [pk_un e, hI i hi]
    by_cases l : B ≤ i ∧ i < B + x
    · rw [if_pos l, if_pos (by omega)]
    · rw [if_neg l, if_neg (by omega)]
/-- and writes it back, shifted -/
theorem rc_shI {o a0 T : Nat → Int32} {s : Nat} (hs : s < 3) {p : Int32}
    (hT : ∀ x, x < 512 → (nI x - p < 0 ∧ T (s * 512 + x) = 0) ∨ (¬ nI x - p < 0 ∧ 512 ≤ nI x - p ∧ T (s * 512 + x) = 0) ∨ (∃ y, y < 512 ∧ nI x - p = nI y ∧ T (s * 512 + x) = o y ∧ rc_01 (o y))) :
    ∀ n x : Nat, x + n = 512 → ∀ a : Nat → Int32, (∀ i, i < 2048 → a i = if s * 512 ≤ i ∧ i < s * 512 + x then T i else a0 i) →
      ∃ a' : Nat → Int32, (∀ i, i < 2048 → a' i = if s * 512 ≤ i ∧ i < s * 512 + 512 then T i else a0 i) ∧
        (∀ (post : Int32 → SY → Prop) (g : Int32), wpY_many (fun r => post r (g, a', o)) (g, a', o) (nI s) → wY_shift_62 post (nI s) p g (n + 1) (nI x) a o) := by
  intro n
  induction n with
  | zero =>
    intro x hx a hI
    have hx : x = 512 := by omega
    subst hx
    have hg : (512 : Int32) ≤ nI 512 := rc_ge (by omega) (by omega)
    exact ⟨a, hI, fun _ _ hp => br_t hg hp⟩
  | succ n ih =>
    intro x hx a hI
    have hy : s * 512 + x < 2048 := by omega
    have h5 : ¬ (512 : Int32) ≤ nI x := rc_lt (by omega)
    rcases hT x (by omega) with ⟨c1, e⟩ | ⟨c1, c2, e⟩ | ⟨y, hy5, c1, e, o01⟩
    · obtain ⟨a', ha, h1⟩ := ih (x + 1) (by omega) (upd a (s * 512 + x) 0) (rc_stI hI e)
      exact ⟨a', ha, fun post g hp => br_f h5 (nm_e (br_t c1 ⟨rc_vY hy, nm_r (rc_uY hy rc_b0) (nm_r (nI_1 x) (h1 post g hp))⟩))⟩
    · obtain ⟨a', ha, h1⟩ := ih (x + 1) (by omega) (upd a (s * 512 + x) 0) (rc_stI hI e)
      exact ⟨a', ha, fun post g hp => br_f h5 (nm_e (br_f c1 (br_t c2 ⟨rc_vY hy, nm_r (rc_uY hy rc_b0) (nm_r (nI_1 x) (h1 post g hp))⟩)))⟩
    · have er : o (nI y).toNatClampNeg = o y := by rw [nI_clamp (by omega)]
      by_cases z : o y = 0
      · obtain ⟨a', ha, h1⟩ := ih (x + 1) (by omega) (upd a (s * 512 + x) 0) (rc_stI hI (e.trans z))
        exact ⟨a', ha, fun post g hp => br_f h5 (nm_r c1 (br_f (nI_pos (by omega)) (br_f (rc_lt hy5) ⟨vp_in_nI hy5 (by decide), br_t (er.trans z) ⟨rc_vY hy, nm_r (rc_uY hy rc_b0) (nm_r (nI_1 x) (h1 post g hp))⟩⟩)))⟩
      · obtain ⟨a', ha, h1⟩ := ih (x + 1) (by omega) (upd a (s * 512 + x) 1) (rc_stI hI (e.trans (rc_one o01 z)))
        exact ⟨a', ha, fun post g hp => br_f h5 (nm_r c1 (br_f (nI_pos (by omega)) (br_f (rc_lt hy5) ⟨vp_in_nI hy5 (by decide), br_f (fun q => z (er.symm.trans q)) ⟨rc_vY hy, nm_r (rc_uY hy rc_b1) (nm_r (nI_1 x) (h1 post g hp))⟩⟩)))⟩
/-- both pictures are one: the states are related again -/
theorem rc_shR {m t a m' a' T : Nat → Int32} (h : rc_R m t a) {s : Nat} (hs : s < 3) (hO : ∀ i, ¬ (s * 512 ≤ i ∧ i < s * 512 + 512) → T i = a i) (hT : ∀ x, x < 512 → rc_01 (T (s * 512 + x)))
    (hm : ∀ i, i < 1536 → m' i = T i) (ha : ∀ i, i < 2048 → a' i = if s * 512 ≤ i ∧ i < s * 512 + 512 then T i else a i) : rc_R m' t a' := by
  have ha2 : ∀ i, i < 2048 → a' i = T i := fun i hi => by
    rw [ha i hi]
    by_cases l : s * 512 ≤ i ∧ i < s * 512 + 512
    · rw [if_pos l]
    · rw [if_neg l, hO i l]
  refine ⟨fun i hi => ?_, fun i hi => ?_, fun i hi => ?_⟩
  · rw [hm i hi, ha2 i (by omega)]
  · rw [ha2 _ (by omega), hO _ (by omega)]; exact h.2.1 i hi
  · rw [ha2 i hi]
    by_cases l : s * 512 ≤ i ∧ i < s * 512 + 512
    · have := hT (i - s * 512) (by omega)
      rwa [show s * 512 + (i - s * 512) = i from by omega] at this
    · rw [hO i l]; exact h.2.2 i hi
end
section
/-! owed: add, remove, fill, clear, flip, and those that only read -/
theorem i_vc_add {k : Nat} {u : SX} {v : SY} (I : i_Rel k u v) (hk : k + 4 ≤ 2048) (v1 : Int32) (v2 : Int32) : wpX_add (fun r u' => wpY_add (fun r' v' => r' = r ∧ i_Rel (k + 4) u' v') v v1 v2) u v1 v2 := by
  obtain ⟨f, m, t⟩ := u
  obtain ⟨g, a, o⟩ := v
  obtain ⟨e, h⟩ := I
  dsimp only at e h
  have e2 := e.symm
  subst e2
  unfold wpX_add
  dsimp only
  rcases rc_set v1 with ⟨sx, sy⟩ | ⟨s, hs, rfl, sx, sy⟩
  · refine sx _ (br_t rfl ?_)
    unfold wpY_add
    dsimp only
    exact sy _ _ _ _ (br_f rc_10 ⟨rfl, rfl, h⟩)
  · refine sx _ (br_f rc_10 ?_)
    rcases rc_num v2 with ⟨nx, ny⟩ | ⟨x, hx, rfl, nx, ny⟩
    · refine nx _ (br_t rfl ?_)
      unfold wpY_add
      dsimp only
      exact sy _ _ _ _ (br_t rfl (ny _ _ _ _ (br_f rc_10 ⟨rfl, rfl, h⟩)))
    · refine nx _ (br_f rc_10 ?_)
      by_cases z : a (s * 512 + x) = 1
      · refine rc_as1 h hs hx z (rc_addY hs hx ?_)
        rw [if_neg (by rw [z]; exact rc_10)]
        exact ⟨rfl, rfl, rc_R_updY h (by omega) z⟩
      · refine rc_as2 h hs hx rc_b1 z (rc_addY hs hx ?_)
        rw [if_pos ((h.2.2 _ (by omega)).resolve_right z)]
        exact ⟨rfl, rfl, rc_R_upd h (by omega) rc_b1⟩
theorem i_vc_remove {k : Nat} {u : SX} {v : SY} (I : i_Rel k u v) (hk : k + 4 ≤ 2048) (v1 : Int32) (v2 : Int32) : wpX_remove (fun r u' => wpY_remove (fun r' v' => r' = r ∧ i_Rel (k + 4) u' v') v v1 v2) u v1 v2 := by
  obtain ⟨f, m, t⟩ := u
  obtain ⟨g, a, o⟩ := v
  obtain ⟨e, h⟩ := I
  dsimp only at e h
  have e2 := e.symm
  subst e2
  unfold wpX_remove
  dsimp only
  rcases rc_set v1 with ⟨sx, sy⟩ | ⟨s, hs, rfl, sx, sy⟩
  · refine sx _ (br_t rfl ?_)
    unfold wpY_remove
    dsimp only
    exact sy _ _ _ _ (br_f rc_10 ⟨rfl, rfl, h⟩)
  · refine sx _ (br_f rc_10 ?_)
    rcases rc_num v2 with ⟨nx, ny⟩ | ⟨x, hx, rfl, nx, ny⟩
    · refine nx _ (br_t rfl ?_)
      unfold wpY_remove
      dsimp only
      exact sy _ _ _ _ (br_t rfl (ny _ _ _ _ (br_f rc_10 ⟨rfl, rfl, h⟩)))
    · refine nx _ (br_f rc_10 ?_)
      by_cases z : a (s * 512 + x) = 0
      · refine rc_as1 h hs hx z (rc_remY hs hx ?_)
        rw [if_pos z]
        exact ⟨rfl, rfl, rc_R_updY h (by omega) z⟩
      · refine rc_as2 h hs hx rc_b0 z (rc_remY hs hx ?_)
        rw [if_neg z]
        exact ⟨rfl, rfl, rc_R_upd h (by omega) rc_b0⟩
theorem i_vc_fill {k : Nat} {u : SX} {v : SY} (I : i_Rel k u v) (hk : k + 4 ≤ 2048) (v1 : Int32) (v2 : Int32) (v3 : Int32) : wpX_fill (fun r u' => wpY_fill (fun r' v' => r' = r ∧ i_Rel (k + 4) u' v') v v1 v2 v3) u v1 v2 v3 := by
  obtain ⟨f, m, t⟩ := u
  obtain ⟨g, a, o⟩ := v
  obtain ⟨e, h⟩ := I
  dsimp only at e h
  have e2 := e.symm
  subst e2
  unfold wpX_fill
  dsimp only
  rcases rc_set v1 with ⟨sx, sy⟩ | ⟨s, hs, rfl, sx, sy⟩
  · refine sx _ (br_t rfl ?_)
    unfold wpY_fill
    dsimp only
    exact sy _ _ _ _ (br_f rc_10 ⟨rfl, rfl, h⟩)
  · refine sx _ (br_f rc_10 ?_)
    rcases rc_rng v2 v3 with ⟨nx, ny⟩ | ⟨x, y, hxy, hy, rfl, rfl, nx, ny⟩
    · refine nx _ (br_t rfl ?_)
      unfold wpY_fill
      dsimp only
      exact sy _ _ _ _ (br_t rfl (ny _ _ _ _ (br_f rc_10 ⟨rfl, rfl, h⟩)))
    · refine nx _ (br_f rc_10 ?_)
      obtain ⟨r, m', a', hR, h1, h2⟩ := rc_fil (t := t) hs hy (y + 1 - x) x (by omega) 0 m a h
      unfold wpX_assign
      dsimp only
      refine nm_r (rc_bX s) ⟨_, h1 _ g ?_⟩
      unfold wpY_fill
      dsimp only
      exact sy _ _ _ _ (br_t rfl (ny _ _ _ _ (br_t rfl ⟨_, h2 _ g o ⟨rfl, rfl, hR⟩⟩)))
theorem i_vc_clear {k : Nat} {u : SX} {v : SY} (I : i_Rel k u v) (hk : k + 4 ≤ 2048) (v1 : Int32) (v2 : Int32) (v3 : Int32) : wpX_clear (fun r u' => wpY_clear (fun r' v' => r' = r ∧ i_Rel (k + 4) u' v') v v1 v2 v3) u v1 v2 v3 := by
  obtain ⟨f, m, t⟩ := u
  obtain ⟨g, a, o⟩ := v
  obtain ⟨e, h⟩ := I
  dsimp only at e h
  have e2 := e.symm
  subst e2
  unfold wpX_clear
  dsimp only
  rcases rc_set v1 with ⟨sx, sy⟩ | ⟨s, hs, rfl, sx, sy⟩
  · refine sx _ (br_t rfl ?_)
    unfold wpY_clear
    dsimp only
    exact sy _ _ _ _ (br_f rc_10 ⟨rfl, rfl, h⟩)
  · refine sx _ (br_f rc_10 ?_)
    rcases rc_rng v2 v3 with ⟨nx, ny⟩ | ⟨x, y, hxy, hy, rfl, rfl, nx, ny⟩
    · refine nx _ (br_t rfl ?_)
      unfold wpY_clear
      dsimp only
      exact sy _ _ _ _ (br_t rfl (ny _ _ _ _ (br_f rc_10 ⟨rfl, rfl, h⟩)))
    · refine nx _ (br_f rc_10 ?_)
      obtain ⟨r, m', a', hR, h1, h2⟩ := rc_clr (t := t) hs hy (y + 1 - x) x (by omega) 0 m a h
      unfold wpX_assign
      dsimp only
      refine nm_r (rc_bX s) ⟨_, h1 _ g ?_⟩
      unfold wpY_clear
      dsimp only
      exact sy _ _ _ _ (br_t rfl (ny _ _ _ _ (br_t rfl ⟨_, h2 _ g o ⟨rfl, rfl, hR⟩⟩)))
theorem i_vc_flip {k : Nat} {u : SX} {v : SY} (I : i_Rel k u v) (hk : k + 4 ≤ 2048) (v1 : Int32) (v2 : Int32) (v3 : Int32) : wpX_flip (fun r u' => wpY_flip (fun r' v' => r' = r ∧ i_Rel (k + 4) u' v') v v1 v2 v3) u v1 v2 v3 := by
  obtain ⟨f, m, t⟩ := u
  obtain ⟨g, a, o⟩ := v
  obtain ⟨e, h⟩ := I
  dsimp only at e h
  have e2 := e.symm
  subst e2
  unfold wpX_flip
  dsimp only
  rcases rc_set v1 with ⟨sx, sy⟩ | ⟨s, hs, rfl, sx, sy⟩
  · refine sx _ (br_t rfl ?_)
    unfold wpY_flip
    dsimp only
    exact sy _ _ _ _ (br_f rc_10 ⟨rfl, rfl, h⟩)
  · refine sx _ (br_f rc_10 ?_)
    rcases rc_rng v2 v3 with ⟨nx, ny⟩ | ⟨x, y, hxy, hy, rfl, rfl, nx, ny⟩
    · refine nx _ (br_t rfl ?_)
      unfold wpY_flip
      dsimp only
      exact sy _ _ _ _ (br_t rfl (ny _ _ _ _ (br_f rc_10 ⟨rfl, rfl, h⟩)))
    · refine nx _ (br_f rc_10 ?_)
      obtain ⟨r, m', a', hR, h1, h2⟩ := rc_flp (t := t) hs hy (y + 1 - x) x (by omega) m a h
      refine nm_r (rc_bX s) ⟨_, h1 _ g ?_⟩
      unfold wpY_flip
      dsimp only
      exact sy _ _ _ _ (br_t rfl (ny _ _ _ _ (br_t rfl ⟨_, h2 _ g o ⟨rfl, rfl, hR⟩⟩)))
end
section
/-! owed: the methods that only read -/
theorem i_vc_has {k : Nat} {u : SX} {v : SY} (I : i_Rel k u v) (hk : k + 4 ≤ 2048) (v1 : Int32) (v2 : Int32) : wpX_has (fun r => wpY_has (fun r' => r' = r ∧ i_Rel (k + 4) u v) v v1 v2) u v1 v2 := by
  obtain ⟨f, m, t⟩ := u
  obtain ⟨g, a, o⟩ := v
  obtain ⟨e, h⟩ := I
  dsimp only at e h
  have e2 := e.symm
  subst e2
  unfold wpX_has
  dsimp only
  rcases rc_set v1 with ⟨sx, sy⟩ | ⟨s, hs, rfl, sx, sy⟩
  · refine sx _ (br_t rfl ?_)
    unfold wpY_has
    dsimp only
    exact sy _ _ _ _ (br_f rc_10 ⟨rfl, rfl, h⟩)
  · refine sx _ (br_f rc_10 ?_)
    rcases rc_num v2 with ⟨nx, ny⟩ | ⟨x, hx, rfl, nx, ny⟩
    · refine nx _ (br_t rfl ?_)
      unfold wpY_has
      dsimp only
      exact sy _ _ _ _ (br_t rfl (ny _ _ _ _ (br_f rc_10 ⟨rfl, rfl, h⟩)))
    · refine nx _ (br_f rc_10 ?_)
      have hi : s * 512 + x < 1536 := by omega
      have hy : s * 512 + x < 2048 := by omega
      rw [rc_bX]
      unfold wpY_has
      dsimp only
      by_cases z : a (s * 512 + x) = 0
      · exact ⟨rc_vX hi, br_t ((rc_rd h hi).trans z) (sy _ _ _ _ (br_t rfl (ny _ _ _ _ (br_t rfl ⟨rc_vY hy, br_t ((rc_ry hy).trans z) ⟨rfl, rfl, h⟩⟩))))⟩
      · exact ⟨rc_vX hi, br_f (fun q => z ((rc_rd h hi).symm.trans q)) (sy _ _ _ _ (br_t rfl (ny _ _ _ _ (br_t rfl ⟨rc_vY hy, br_f (fun q => z ((rc_ry hy).symm.trans q)) ⟨rfl, rfl, h⟩⟩))))⟩
theorem i_vc_size {k : Nat} {u : SX} {v : SY} (I : i_Rel k u v) (hk : k + 4 ≤ 2048) (v1 : Int32) : wpX_size (fun r => wpY_size (fun r' => r' = r ∧ i_Rel (k + 4) u v) v v1) u v1 := by
  obtain ⟨f, m, t⟩ := u
  obtain ⟨g, a, o⟩ := v
  obtain ⟨e, h⟩ := I
  dsimp only at e h
  have e2 := e.symm
  subst e2
  unfold wpX_size
  dsimp only
  rcases rc_set v1 with ⟨sx, sy⟩ | ⟨s, hs, rfl, sx, sy⟩
  · refine sx _ (br_t rfl ?_)
    unfold wpY_size
    dsimp only
    exact sy _ _ _ _ (br_f rc_10 ⟨rfl, rfl, h⟩)
  · refine sx _ (br_f rc_10 ?_)
    obtain ⟨r, c1, c2⟩ := rc_count h hs
    refine c1 _ g t ?_
    unfold wpY_size
    dsimp only
    exact sy _ _ _ _ (br_t rfl (c2 _ g o ⟨rfl, rfl, h⟩))
theorem i_vc_rank {k : Nat} {u : SX} {v : SY} (I : i_Rel k u v) (hk : k + 4 ≤ 2048) (v1 : Int32) (v2 : Int32) : wpX_rank (fun r => wpY_rank (fun r' => r' = r ∧ i_Rel (k + 4) u v) v v1 v2) u v1 v2 := by
  obtain ⟨f, m, t⟩ := u
  obtain ⟨g, a, o⟩ := v
  obtain ⟨e, h⟩ := I
  dsimp only at e h
  have e2 := e.symm
  subst e2
  unfold wpX_rank
  dsimp only
  rcases rc_set v1 with ⟨sx, sy⟩ | ⟨s, hs, rfl, sx, sy⟩
  · refine sx _ (br_t rfl ?_)
    unfold wpY_rank
    dsimp only
    exact sy _ _ _ _ (br_f rc_10 ⟨rfl, rfl, h⟩)
  · refine sx _ (br_f rc_10 ?_)
    unfold wpX_countBelow wpY_rank
    dsimp only
    by_cases h0 : v2 < 0
    · obtain ⟨r, c1, c2⟩ := rc_cnt h hs 0 (by omega) v2 v2 (fun x hx => absurd hx (Nat.not_lt_zero x)) (by rw [nI_0]; exact Int32.le_of_lt h0) (fun x hx => absurd hx (Nat.not_lt_zero x)) (Or.inr (by rw [nI_0]; exact Int32.le_of_lt h0)) 0 0 rfl 0
      rw [nI_0] at c1 c2
      exact nm_r (rc_bX s) (br_t (Int32.le_trans (Int32.le_of_lt h0) (by decide)) ⟨_, c1 _ g t (sy _ _ _ _ (br_t rfl ⟨_, c2 _ g o ⟨rfl, rfl, h⟩⟩))⟩)
    · obtain ⟨j, hj, rfl⟩ := nI_of h0
      by_cases h5 : j ≤ 512
      · obtain ⟨r, c1, c2⟩ := rc_cnt h hs j h5 (nI j) (nI j) (fun x hx => nI_ge hx hj) (nI_le (Nat.le_refl j) hj) (fun x hx => nI_ge hx hj) (Or.inr (nI_le (Nat.le_refl j) hj)) j 0 (by omega) 0
        rw [nI_0] at c1 c2
        exact nm_r (rc_bX s) (br_t (by rw [← rc_512]; exact nI_le h5 (by decide)) ⟨_, c1 _ g t (sy _ _ _ _ (br_t rfl ⟨_, c2 _ g o ⟨rfl, rfl, h⟩⟩))⟩)
      · obtain ⟨r, c1, c2⟩ := rc_cnt h hs 512 (Nat.le_refl _) 512 (nI j) (fun x hx => rc_lt hx) (rc_ge (Nat.le_refl _) (by decide)) (fun x hx => nI_ge (by omega) hj) (Or.inl rfl) 512 0 (by omega) 0
        rw [nI_0] at c1 c2
        exact nm_r (rc_bX s) (br_f (by rw [← rc_512]; exact nI_ge (by omega) hj) ⟨_, c1 _ g t (sy _ _ _ _ (br_t rfl ⟨_, c2 _ g o ⟨rfl, rfl, h⟩⟩))⟩)
theorem i_vc_select {k : Nat} {u : SX} {v : SY} (I : i_Rel k u v) (hk : k + 4 ≤ 2048) (v1 : Int32) (v2 : Int32) : wpX_select (fun r => wpY_select (fun r' => r' = r ∧ i_Rel (k + 4) u v) v v1 v2) u v1 v2 := by
  obtain ⟨f, m, t⟩ := u
  obtain ⟨g, a, o⟩ := v
  obtain ⟨e, h⟩ := I
  dsimp only at e h
  have e2 := e.symm
  subst e2
  unfold wpX_select
  dsimp only
  rcases rc_set v1 with ⟨sx, sy⟩ | ⟨s, hs, rfl, sx, sy⟩
  · refine sx _ (br_t rfl ?_)
    unfold wpY_select
    dsimp only
    exact sy _ _ _ _ (br_f rc_10 ⟨rfl, rfl, h⟩)
  · refine sx _ (br_f rc_10 ?_)
    unfold wpY_select
    dsimp only
    by_cases h0 : 0 ≤ v2
    · obtain ⟨r, h1, h2⟩ := rc_sel h hs v2 512 0 rfl 0
      rw [nI_0] at h1 h2
      exact br_t h0 (nm_r (rc_bX s) ⟨_, h1 _ g t (sy _ _ _ _ (br_t rfl ⟨_, h2 _ g o ⟨rfl, rfl, h⟩⟩))⟩)
    · have h1 := rc_selN (a := a) hs (Int32.not_le.mp h0) (fun r' => r' = -2 ∧ i_Rel (k + 4) (g, m, t) (g, a, o)) g o ⟨rfl, rfl, h⟩ 512 0 rfl 0 (Nat.le_refl _)
      rw [nI_0] at h1
      exact br_f h0 (sy _ _ _ _ (br_t rfl ⟨_, h1⟩))
theorem i_vc_next {k : Nat} {u : SX} {v : SY} (I : i_Rel k u v) (hk : k + 4 ≤ 2048) (v1 : Int32) (v2 : Int32) : wpX_next (fun r => wpY_next (fun r' => r' = r ∧ i_Rel (k + 4) u v) v v1 v2) u v1 v2 := by
  obtain ⟨f, m, t⟩ := u
  obtain ⟨g, a, o⟩ := v
  obtain ⟨e, h⟩ := I
  dsimp only at e h
  have e2 := e.symm
  subst e2
  unfold wpX_next
  dsimp only
  rcases rc_set v1 with ⟨sx, sy⟩ | ⟨s, hs, rfl, sx, sy⟩
  · refine sx _ (br_t rfl ?_)
    unfold wpY_next
    dsimp only
    exact sy _ _ _ _ (br_f rc_10 ⟨rfl, rfl, h⟩)
  · refine sx _ (br_f rc_10 ?_)
    unfold wpY_next
    dsimp only
    by_cases h0 : 0 ≤ v2
    · obtain ⟨j, hj, rfl⟩ := nI_of (Int32.not_lt.mpr h0)
      by_cases h5 : j < 512
      · obtain ⟨r, h1, h2⟩ := rc_nxt h hs (nI j) (512 - j) j (by omega) (fun y h1 h2 => nI_nlt h1 (by omega))
        have h3 := fun post hp => rc_nxS (s := s) (nI j) j (by omega) (fun y hy => nI_lt hy hj) post g o _ (h2 post g o hp) j 0 (by omega)
        rw [nI_0] at h3
        exact nm_r (rc_bX s) (br_t h0 ⟨_, h1 _ g t (sy _ _ _ _ (br_t rfl ⟨_, h3 _ ⟨rfl, rfl, h⟩⟩))⟩)
      · have h3 := rc_nxS (a := a) (s := s) (nI j) 512 (Nat.le_refl _) (fun y hy => nI_lt (by omega) hj) (fun r' => r' = -2 ∧ i_Rel (k + 4) (g, m, t) (g, a, o)) g o 1 (br_t (rc_ge (Nat.le_refl _) (by decide)) ⟨rfl, rfl, h⟩) 512 0 (by omega)
        rw [nI_0] at h3
        exact nm_r (rc_bX s) (br_t h0 ⟨1, br_t (rc_ge (by omega) hj) (sy _ _ _ _ (br_t rfl ⟨_, h3⟩))⟩)
    · obtain ⟨r, h1, h2⟩ := rc_nxt h hs v2 512 0 rfl (fun y h1 h2 q => h0 (Int32.le_of_lt (Int32.lt_of_le_of_lt (nI_pos' (by omega)) q)))
      rw [nI_0] at h1 h2
      exact nm_r (rc_bX s) (br_f h0 ⟨_, h1 _ g t (sy _ _ _ _ (br_t rfl ⟨_, h2 _ g o ⟨rfl, rfl, h⟩⟩))⟩)
theorem rc_e511 : nI 512 + (-1) = 511 := by decide +kernel
theorem i_vc_previous {k : Nat} {u : SX} {v : SY} (I : i_Rel k u v) (hk : k + 4 ≤ 2048) (v1 : Int32) (v2 : Int32) : wpX_previous (fun r => wpY_previous (fun r' => r' = r ∧ i_Rel (k + 4) u v) v v1 v2) u v1 v2 := by
  obtain ⟨f, m, t⟩ := u
  obtain ⟨g, a, o⟩ := v
  obtain ⟨e, h⟩ := I
  dsimp only at e h
  have e2 := e.symm
  subst e2
  unfold wpX_previous
  dsimp only
  rcases rc_set v1 with ⟨sx, sy⟩ | ⟨s, hs, rfl, sx, sy⟩
  · refine sx _ (br_t rfl ?_)
    unfold wpY_previous
    dsimp only
    exact sy _ _ _ _ (br_f rc_10 ⟨rfl, rfl, h⟩)
  · refine sx _ (br_f rc_10 ?_)
    unfold wpY_previous
    dsimp only
    by_cases h5 : v2 < 512
    · by_cases h0 : v2 < 0
      · have h3 := rc_pvS (a := a) (s := s) v2 0 (fun y _ hy => Int32.lt_of_lt_of_le h0 (nI_pos' (by omega))) (fun r' => r' = -2 ∧ i_Rel (k + 4) (g, m, t) (g, a, o)) g o 1 (br_t rc_neg ⟨rfl, rfl, h⟩) 512 (by omega)
        rw [Nat.zero_add, rc_e511] at h3
        exact nm_r (rc_bX s) (br_t h5 ⟨1, br_t h0 (sy _ _ _ _ (br_t rfl ⟨_, h3⟩))⟩)
      · obtain ⟨j, hj, rfl⟩ := nI_of h0
        have hj5 : j < 512 := by
          rw [← rc_512] at h5
          exact (nI_ltI hj (by decide)).mp h5
        obtain ⟨r, h1, h2⟩ := rc_prv h hs (nI j) (j + 1) (by omega) (fun y hy => nI_nlt (by omega) hj)
        have h3 := fun post hp => rc_pvS (s := s) (nI j) (j + 1) (fun y hy hy5 => nI_lt (by omega) (by omega)) post g o _ (h2 post g o hp) (511 - j) (by omega)
        rw [show j + 1 + (511 - j) = 512 from by omega, rc_e511] at h3
        rw [pk_m1] at h1
        exact nm_r (rc_bX s) (br_t h5 ⟨_, h1 _ g t (sy _ _ _ _ (br_t rfl ⟨_, h3 _ ⟨rfl, rfl, h⟩⟩))⟩)
    · obtain ⟨r, h1, h2⟩ := rc_prv h hs v2 512 (Nat.le_refl _) (fun y hy q => h5 (Int32.lt_trans q (by rw [← rc_512]; exact nI_lt hy (by decide))))
      rw [rc_e511] at h1 h2
      exact nm_r (rc_bX s) (br_f h5 ⟨_, h1 _ g t (sy _ _ _ _ (br_t rfl ⟨_, h2 _ g o ⟨rfl, rfl, h⟩⟩))⟩)
theorem i_vc_gap {k : Nat} {u : SX} {v : SY} (I : i_Rel k u v) (hk : k + 4 ≤ 2048) (v1 : Int32) (v2 : Int32) : wpX_gap (fun r => wpY_gap (fun r' => r' = r ∧ i_Rel (k + 4) u v) v v1 v2) u v1 v2 := by
  obtain ⟨f, m, t⟩ := u
  obtain ⟨g, a, o⟩ := v
  obtain ⟨e, h⟩ := I
  dsimp only at e h
  have e2 := e.symm
  subst e2
  unfold wpX_gap
  dsimp only
  rcases rc_set v1 with ⟨sx, sy⟩ | ⟨s, hs, rfl, sx, sy⟩
  · refine sx _ (br_t rfl ?_)
    unfold wpY_gap
    dsimp only
    exact sy _ _ _ _ (br_f rc_10 ⟨rfl, rfl, h⟩)
  · refine sx _ (br_f rc_10 ?_)
    rcases rc_num v2 with ⟨nx, ny⟩ | ⟨x, hx, rfl, nx, ny⟩
    · refine nx _ (br_t rfl ?_)
      unfold wpY_gap
      dsimp only
      exact sy _ _ _ _ (br_t rfl (ny _ _ _ _ (br_f rc_10 ⟨rfl, rfl, h⟩)))
    · refine nx _ (br_f rc_10 ?_)
      obtain ⟨r, h1, h2⟩ := rc_gap h hs (512 - x) x (by omega)
      unfold wpY_gap
      dsimp only
      exact nm_r (rc_bX s) ⟨_, h1 _ g t (sy _ _ _ _ (br_t rfl (ny _ _ _ _ (br_t rfl ⟨_, h2 _ g o ⟨rfl, rfl, h⟩⟩))))⟩
theorem i_vc_runs {k : Nat} {u : SX} {v : SY} (I : i_Rel k u v) (hk : k + 4 ≤ 2048) (v1 : Int32) : wpX_runs (fun r => wpY_runs (fun r' => r' = r ∧ i_Rel (k + 4) u v) v v1) u v1 := by
  obtain ⟨f, m, t⟩ := u
  obtain ⟨g, a, o⟩ := v
  obtain ⟨e, h⟩ := I
  dsimp only at e h
  have e2 := e.symm
  subst e2
  unfold wpX_runs
  dsimp only
  rcases rc_set v1 with ⟨sx, sy⟩ | ⟨s, hs, rfl, sx, sy⟩
  · refine sx _ (br_t rfl ?_)
    unfold wpY_runs
    dsimp only
    exact sy _ _ _ _ (br_f rc_10 ⟨rfl, rfl, h⟩)
  · refine sx _ (br_f rc_10 ?_)
    obtain ⟨r, h1, h2⟩ := rc_run h hs 512 0 rfl 0 0 (Or.inl ⟨rfl, rfl⟩)
    rw [nI_0] at h1 h2
    unfold wpY_runs
    dsimp only
    exact nm_r (rc_bX s) ⟨_, h1 _ g t (sy _ _ _ _ (br_t rfl ⟨_, h2 _ g o ⟨rfl, rfl, h⟩⟩))⟩
theorem i_vc_common {k : Nat} {u : SX} {v : SY} (I : i_Rel k u v) (hk : k + 4 ≤ 2048) (v1 : Int32) (v2 : Int32) : wpX_common (fun r => wpY_common (fun r' => r' = r ∧ i_Rel (k + 4) u v) v v1 v2) u v1 v2 := by
  obtain ⟨f, m, t⟩ := u
  obtain ⟨g, a, o⟩ := v
  obtain ⟨e, h⟩ := I
  dsimp only at e h
  have e2 := e.symm
  subst e2
  unfold wpX_common
  dsimp only
  rcases rc_set v1 with ⟨sx, sy⟩ | ⟨s, hs, rfl, sx, sy⟩
  · refine sx _ (br_t rfl ?_)
    unfold wpY_common
    dsimp only
    exact sy _ _ _ _ (br_f rc_10 ⟨rfl, rfl, h⟩)
  · refine sx _ (br_f rc_10 ?_)
    rcases rc_set v2 with ⟨qx, qy⟩ | ⟨q, hq, rfl, qx, qy⟩
    · refine qx _ (br_t rfl ?_)
      unfold wpY_common
      dsimp only
      exact sy _ _ _ _ (br_t rfl (qy _ _ _ _ (br_f rc_10 ⟨rfl, rfl, h⟩)))
    · refine qx _ (br_f rc_10 ?_)
      obtain ⟨r, h1, h2⟩ := rc_com h hs hq 512 0 rfl 0
      rw [nI_0] at h1 h2
      unfold wpX_countJoined wpY_common
      dsimp only
      exact nm_r (rc_bX s) (nm_r (rc_bX q) ⟨_, h1 _ g t (sy _ _ _ _ (br_t rfl (qy _ _ _ _ (br_t rfl ⟨_, h2 _ g o ⟨rfl, rfl, h⟩⟩))))⟩)
theorem i_vc_within {k : Nat} {u : SX} {v : SY} (I : i_Rel k u v) (hk : k + 4 ≤ 2048) (v1 : Int32) (v2 : Int32) : wpX_within (fun r => wpY_within (fun r' => r' = r ∧ i_Rel (k + 4) u v) v v1 v2) u v1 v2 := by
  obtain ⟨f, m, t⟩ := u
  obtain ⟨g, a, o⟩ := v
  obtain ⟨e, h⟩ := I
  dsimp only at e h
  have e2 := e.symm
  subst e2
  unfold wpX_within
  dsimp only
  rcases rc_set v1 with ⟨sx, sy⟩ | ⟨s, hs, rfl, sx, sy⟩
  · refine sx _ (br_t rfl ?_)
    unfold wpY_within
    dsimp only
    exact sy _ _ _ _ (br_f rc_10 ⟨rfl, rfl, h⟩)
  · refine sx _ (br_f rc_10 ?_)
    rcases rc_set v2 with ⟨qx, qy⟩ | ⟨q, hq, rfl, qx, qy⟩
    · refine qx _ (br_t rfl ?_)
      unfold wpY_within
      dsimp only
      exact sy _ _ _ _ (br_t rfl (qy _ _ _ _ (br_f rc_10 ⟨rfl, rfl, h⟩)))
    · refine qx _ (br_f rc_10 ?_)
      obtain ⟨r, _, hr, h1, h2⟩ := rc_wit h hs hq 512 0 rfl 0 (by omega)
      rw [nI_0] at h1 h2
      unfold wpX_countJoined wpY_within
      dsimp only
      refine nm_r (rc_bX s) (nm_r (rc_bX q) ⟨_, h1 _ g t ?_⟩)
      by_cases z : r = 0
      · rw [if_pos z] at h2
        exact br_t (by rw [z, nI_0]) (sy _ _ _ _ (br_t rfl (qy _ _ _ _ (br_t rfl ⟨_, h2 _ g o ⟨rfl, rfl, h⟩⟩))))
      · rw [if_neg z] at h2
        exact br_f (nI_ne0 (by omega) (by omega)) (sy _ _ _ _ (br_t rfl (qy _ _ _ _ (br_t rfl ⟨_, h2 _ g o ⟨rfl, rfl, h⟩⟩))))
theorem i_vc_same {k : Nat} {u : SX} {v : SY} (I : i_Rel k u v) (hk : k + 4 ≤ 2048) (v1 : Int32) (v2 : Int32) : wpX_same (fun r => wpY_same (fun r' => r' = r ∧ i_Rel (k + 4) u v) v v1 v2) u v1 v2 := by
  obtain ⟨f, m, t⟩ := u
  obtain ⟨g, a, o⟩ := v
  obtain ⟨e, h⟩ := I
  dsimp only at e h
  have e2 := e.symm
  subst e2
  unfold wpX_same
  dsimp only
  rcases rc_set v1 with ⟨sx, sy⟩ | ⟨s, hs, rfl, sx, sy⟩
  · refine sx _ (br_t rfl ?_)
    unfold wpY_same
    dsimp only
    exact sy _ _ _ _ (br_f rc_10 ⟨rfl, rfl, h⟩)
  · refine sx _ (br_f rc_10 ?_)
    rcases rc_set v2 with ⟨qx, qy⟩ | ⟨q, hq, rfl, qx, qy⟩
    · refine qx _ (br_t rfl ?_)
      unfold wpY_same
      dsimp only
      exact sy _ _ _ _ (br_t rfl (qy _ _ _ _ (br_f rc_10 ⟨rfl, rfl, h⟩)))
    · refine qx _ (br_f rc_10 ?_)
      obtain ⟨r, _, hr, h1, h2⟩ := rc_sam h hs hq 512 0 rfl 0 (by omega)
      rw [nI_0] at h1 h2
      unfold wpX_countJoined wpY_same
      dsimp only
      refine nm_r (rc_bX s) (nm_r (rc_bX q) ⟨_, h1 _ g t ?_⟩)
      by_cases z : r = 0
      · rw [if_pos z] at h2
        exact br_t (by rw [z, nI_0]) (sy _ _ _ _ (br_t rfl (qy _ _ _ _ (br_t rfl ⟨_, h2 _ g o ⟨rfl, rfl, h⟩⟩))))
      · rw [if_neg z] at h2
        exact br_f (nI_ne0 (by omega) (by omega)) (sy _ _ _ _ (br_t rfl (qy _ _ _ _ (br_t rfl ⟨_, h2 _ g o ⟨rfl, rfl, h⟩⟩))))
end
section
/-! owed: sow, join, shift -/
theorem rc_100 : nI 100 = 100 := by decide +kernel
theorem rc_200 : nI 200 = 200 := by decide +kernel
theorem rc_d0 : ¬ (256 : Int32) = 0 := by decide
theorem rc_dneg {p : Int32} (h : ¬ 0 ≤ p) : p / 256 < 1 := by
  have hp : p.toInt < 0 := by
    have := Int32.not_le.mp h
    rw [Int32.lt_iff_toInt_lt, Int32.toInt_zero] at this
    exact this
  have hl := Int32.le_toInt p
  have h256 : (256 : Int32).toInt = 256 := by decide
  have h1 : (1 : Int32).toInt = 1 := by decide
  have hd : p.toInt.tdiv 256 = -((-p.toInt) / 256) := by
    have e : p.toInt = -(-p.toInt) := by omega
    rw [e, Int.neg_tdiv, Int.tdiv_eq_ediv_of_nonneg (by omega), Int.neg_neg]
  rw [Int32.lt_iff_toInt_lt, Int32.toInt_div, h256, h1, hd, Int.bmod_eq_of_le (by omega) (by omega)]
  omega
theorem i_vc_sow {k : Nat} {u : SX} {v : SY} (I : i_Rel k u v) (hk : k + 4 ≤ 2048) (v1 : Int32) (v2 : Int32) (v3 : Int32) : wpX_sow (fun r u' => wpY_sow (fun r' v' => r' = r ∧ i_Rel (k + 4) u' v') v v1 v2 v3) u v1 v2 v3 := by
  obtain ⟨f, m, t⟩ := u
  obtain ⟨g, a, o⟩ := v
  obtain ⟨e, h⟩ := I
  dsimp only at e h
  have e2 := e.symm
  subst e2
  unfold wpX_sow
  dsimp only
  rcases rc_set v1 with ⟨sx, sy⟩ | ⟨s, hs, rfl, sx, sy⟩
  · refine sx _ (br_t rfl ?_)
    unfold wpY_sow
    dsimp only
    exact sy _ _ _ _ (br_f rc_10 ⟨rfl, rfl, h⟩)
  · refine sx _ (br_f rc_10 ?_)
    rcases rc_num v2 with ⟨nx, ny⟩ | ⟨x, hx, rfl, nx, ny⟩
    · refine nx _ (br_t rfl ?_)
      unfold wpY_sow
      dsimp only
      exact sy _ _ _ _ (br_t rfl (ny _ _ _ _ (br_f rc_10 ⟨rfl, rfl, h⟩)))
    · refine nx _ (br_f rc_10 ?_)
      unfold wpY_sow
      dsimp only
      by_cases h0 : 0 ≤ v3
      · obtain ⟨j, hj, rfl⟩ := nI_of (Int32.not_lt.mpr h0)
        have e1 : nI j / 256 = nI (j / 256) := by rw [← rc_256]; exact pk_div hj (by decide) (by decide)
        have e2 : nI j - nI j / 256 * 256 = nI (j % 256) := by rw [← rc_256]; exact pk_rem hj (by decide) (by decide)
        have hq : j / 256 < 2 ^ 31 := by omega
        have hC : j % 256 < 256 := Nat.mod_lt _ (by decide)
        generalize j / 256 = q at e1 hq
        generalize j % 256 = C at e2 hC
        by_cases q1 : q < 1
        · have z1 : nI q < 1 := nI_lt (b := 1) q1 (by decide)
          exact ⟨rc_d0, nm_r e1 ⟨rc_d0, nm_r e2 (br_t z1 (sy _ _ _ _ (br_t rfl (ny _ _ _ _ (br_t rfl (br_t h0 ⟨rc_d0, nm_r e1 ⟨rc_d0, nm_r e2 (br_t z1 ⟨rfl, rfl, h⟩)⟩⟩))))))⟩⟩
        · have z1 : ¬ nI q < 1 := nI_nlt (b := 1) (by omega) hq
          by_cases q2 : q ≤ 100
          · have z2 : nI q ≤ 100 := by rw [← rc_100]; exact nI_le q2 (by decide)
            by_cases c1 : C < 1
            · have z3 : nI C < 1 := nI_lt (b := 1) c1 (by decide)
              exact ⟨rc_d0, nm_r e1 ⟨rc_d0, nm_r e2 (br_f z1 (br_t z2 (br_t z3 (sy _ _ _ _ (br_t rfl (ny _ _ _ _ (br_t rfl (br_t h0 ⟨rc_d0, nm_r e1 ⟨rc_d0, nm_r e2 (br_f z1 (br_t z2 (br_t z3 ⟨rfl, rfl, h⟩)))⟩⟩))))))))⟩⟩
            · have z3 : ¬ nI C < 1 := nI_nlt (b := 1) (by omega) (by omega)
              by_cases c2 : C ≤ 200
              · have z4 : nI C ≤ 200 := by rw [← rc_200]; exact nI_le c2 (by decide)
                obtain ⟨r, m', a', hR, h1, h2⟩ := rc_sow (t := t) hs hx q2 c2 C 0 (by omega) m a h
                rw [nI_0] at h1 h2
                exact ⟨rc_d0, nm_r e1 ⟨rc_d0, nm_r e2 (br_f z1 (br_t z2 (br_f z3 (br_t z4 (nm_r (rc_bX s) ⟨_, h1 _ g (sy _ _ _ _ (br_t rfl (ny _ _ _ _ (br_t rfl (br_t h0 ⟨rc_d0, nm_r e1 ⟨rc_d0, nm_r e2 (br_f z1 (br_t z2 (br_f z3 (br_t z4 ⟨_, h2 _ g o ⟨rfl, rfl, hR⟩⟩))))⟩⟩)))))⟩)))))⟩⟩
              · have z4 : ¬ nI C ≤ 200 := by rw [← rc_200]; exact nI_ge (by omega) (by omega)
                exact ⟨rc_d0, nm_r e1 ⟨rc_d0, nm_r e2 (br_f z1 (br_t z2 (br_f z3 (br_f z4 (sy _ _ _ _ (br_t rfl (ny _ _ _ _ (br_t rfl (br_t h0 ⟨rc_d0, nm_r e1 ⟨rc_d0, nm_r e2 (br_f z1 (br_t z2 (br_f z3 (br_f z4 ⟨rfl, rfl, h⟩))))⟩⟩)))))))))⟩⟩
          · have z2 : ¬ nI q ≤ 100 := by rw [← rc_100]; exact nI_ge (by omega) hq
            exact ⟨rc_d0, nm_r e1 ⟨rc_d0, nm_r e2 (br_f z1 (br_f z2 (sy _ _ _ _ (br_t rfl (ny _ _ _ _ (br_t rfl (br_t h0 ⟨rc_d0, nm_r e1 ⟨rc_d0, nm_r e2 (br_f z1 (br_f z2 ⟨rfl, rfl, h⟩))⟩⟩)))))))⟩⟩
      · exact ⟨rc_d0, nm_e ⟨rc_d0, nm_e (br_t (rc_dneg h0) (sy _ _ _ _ (br_t rfl (ny _ _ _ _ (br_t rfl (br_f h0 ⟨rfl, rfl, h⟩))))))⟩⟩
theorem i_vc_join {k : Nat} {u : SX} {v : SY} (I : i_Rel k u v) (hk : k + 4 ≤ 2048) (v1 : Int32) (v2 : Int32) (v3 : Int32) : wpX_join (fun r u' => wpY_join (fun r' v' => r' = r ∧ i_Rel (k + 4) u' v') v v1 v2 v3) u v1 v2 v3 := by
  obtain ⟨f, m, t⟩ := u
  obtain ⟨g, a, o⟩ := v
  obtain ⟨e, h⟩ := I
  dsimp only at e h
  have e2 := e.symm
  subst e2
  unfold wpX_join
  dsimp only
  unfold wpY_join
  dsimp only
  by_cases k0 : v1 < 0
  · exact br_t k0 (br_t k0 ⟨rfl, rfl, h⟩)
  · obtain ⟨j, hj, rfl⟩ := nI_of k0
    by_cases hk4 : j < 4
    · have k3 : nI j ≤ 3 := nI_le (b := 3) (by omega) (by decide)
      rcases rc_set v2 with ⟨sx, sy⟩ | ⟨s, hs, rfl, sx, sy⟩
      · exact br_f k0 (br_t k3 (sx _ (br_t rfl (br_f k0 (br_t k3 (sy _ _ _ _ (br_f rc_10 ⟨rfl, rfl, h⟩)))))))
      · rcases rc_set v3 with ⟨qx, qy⟩ | ⟨q, hq, rfl, qx, qy⟩
        · exact br_f k0 (br_t k3 (sx _ (br_f rc_10 (qx _ (br_t rfl (br_f k0 (br_t k3 (sy _ _ _ _ (br_t rfl (qy _ _ _ _ (br_f rc_10 ⟨rfl, rfl, h⟩)))))))))))
        · obtain ⟨r, m', a', hR, h1, h2⟩ := rc_joi (t := t) hk4 hs hq 512 0 rfl m a h
          rw [nI_0] at h1 h2
          exact br_f k0 (br_t k3 (sx _ (br_f rc_10 (qx _ (br_f rc_10 (nm_r (rc_bX s) (nm_r (rc_bX q) ⟨_, h1 _ g (br_f k0 (br_t k3 (sy _ _ _ _ (br_t rfl (qy _ _ _ _ (br_t rfl ⟨_, h2 _ g o ⟨rfl, rfl, hR⟩⟩))))))⟩)))))))
    · have k3 : ¬ nI j ≤ 3 := nI_ge (a := 3) (by omega) hj
      exact br_f k0 (br_f k3 (br_f k0 (br_f k3 ⟨rfl, rfl, h⟩)))
theorem rc_sU {m t a : Nat → Int32} (h : rc_R m t a) {s d : Nat} (hs : s < 3) (hd : 0 < d) (hd2 : d < 512) (o : Nat → Int32) :
    ∃ (r : Int32) (m' a' o' : Nat → Int32), rc_R m' t a' ∧
      (∀ (post : Int32 → SX → Prop) (f : Int32), post r (f, m', t) → wpX_moveUp (fun u => match u with | (f1, m1, t1) => wX_shift_46 post (nI s) f1 m1 t1) (f, m, t) (nI s) (nI d)) ∧
      (∀ (post : Int32 → SY → Prop) (g : Int32), post r (g, a', o') → wY_shift_29 post (nI s) (nI d) g 513 0 a o) := by
  obtain ⟨o', ho, y1⟩ := rc_shO h.2.2 hs (nI d) 512 0 rfl o (fun y hy => absurd hy (Nat.not_lt_zero y))
  obtain ⟨m', hm, x1⟩ := rc_mvU (t := t) h.2.2 hs hd hd2 512 (Nat.le_refl _) m (fun i hi => by
    by_cases l : i < s * 512 + 512
    · rw [if_pos l]; exact h.1 i hi
    · rw [if_neg l, rc_upO (by omega)]; exact h.1 i hi)
  obtain ⟨a', ha, y2⟩ := rc_shI (o := o') (a0 := a) (T := rc_up a (s * 512) d) hs (p := nI d) (fun x hx => by
    by_cases l : x < d
    · exact Or.inl ⟨pk_sneg (by omega) l, rc_upZ hx l⟩
    · exact Or.inr (Or.inr ⟨x - d, by omega, pk_sub (by omega), (rc_upV hx (by omega)).trans (ho _ (by omega)).symm, by rw [ho _ (by omega)]; exact h.2.2 _ (by omega)⟩)) 512 0 rfl a (fun i hi => by rw [if_neg (by omega)])
  have hR : rc_R m' t a' := rc_shR h hs (fun i l => rc_upO l) (fun x hx => by
    by_cases l : x < d
    · rw [rc_upZ hx l]; exact rc_b0
    · rw [rc_upV hx (by omega)]; exact h.2.2 _ (by omega)) hm ha
  obtain ⟨r, c1, c2⟩ := rc_count hR hs
  rw [nI_0] at y1 y2
  rw [rc_e511] at x1
  refine ⟨r, m', a', o', hR, fun post f hp => ?_, fun post g hp => ?_⟩
  · unfold wpX_moveUp
    dsimp only
    exact nm_r (rc_bX s) ⟨513, x1 _ f (c1 (fun r => post r (f, m', t)) f t hp)⟩
  · exact y1 post g ⟨513, y2 post g (c2 (fun r => post r (g, a', o')) g o' hp)⟩
theorem rc_sD {m t a : Nat → Int32} (h : rc_R m t a) {s d : Nat} (hs : s < 3) (hd2 : d < 512) {p : Int32} (hp1 : -p = nI d) (hp2 : ∀ x, nI x - p = nI (x + d)) (o : Nat → Int32) :
    ∃ (r : Int32) (m' a' o' : Nat → Int32), rc_R m' t a' ∧
      (∀ (post : Int32 → SX → Prop) (f : Int32), post r (f, m', t) → wpX_moveDown (fun u => match u with | (f1, m1, t1) => wX_shift_46 post (nI s) f1 m1 t1) (f, m, t) (nI s) (-p)) ∧
      (∀ (post : Int32 → SY → Prop) (g : Int32), post r (g, a', o') → wY_shift_29 post (nI s) p g 513 0 a o) := by
  obtain ⟨o', ho, y1⟩ := rc_shO h.2.2 hs p 512 0 rfl o (fun y hy => absurd hy (Nat.not_lt_zero y))
  obtain ⟨m', hm, x1⟩ := rc_mvD (t := t) (d := d) h.2.2 hs hd2 512 0 rfl m (fun i hi => by
    by_cases l : i < s * 512 + 0
    · rw [if_pos l, rc_dnO (by omega)]; exact h.1 i hi
    · rw [if_neg l]; exact h.1 i hi)
  obtain ⟨a', ha, y2⟩ := rc_shI (o := o') (a0 := a) (T := rc_dn a (s * 512) d) hs (p := p) (fun x hx => by
    rw [hp2 x]
    by_cases l : 512 ≤ x + d
    · exact Or.inr (Or.inl ⟨nI_pos (by omega), rc_ge l (by omega), rc_dnZ hx l⟩)
    · exact Or.inr (Or.inr ⟨x + d, by omega, rfl, (rc_dnV hx (by omega)).trans (ho _ (by omega)).symm, by rw [ho _ (by omega)]; exact h.2.2 _ (by omega)⟩)) 512 0 rfl a (fun i hi => by rw [if_neg (by omega)])
  have hR : rc_R m' t a' := rc_shR h hs (fun i l => rc_dnO l) (fun x hx => by
    by_cases l : 512 ≤ x + d
    · rw [rc_dnZ hx l]; exact rc_b0
    · rw [rc_dnV hx (by omega)]; exact h.2.2 _ (by omega)) hm ha
  obtain ⟨r, c1, c2⟩ := rc_count hR hs
  rw [nI_0] at x1 y1 y2
  refine ⟨r, m', a', o', hR, fun post f hp => ?_, fun post g hp => ?_⟩
  · unfold wpX_moveDown
    dsimp only
    rw [hp1]
    exact nm_r (rc_bX s) ⟨513, x1 _ f (c1 (fun r => post r (f, m', t)) f t hp)⟩
  · exact y1 post g ⟨513, y2 post g (c2 (fun r => post r (g, a', o')) g o' hp)⟩
theorem i_vc_shift {k : Nat} {u : SX} {v : SY} (I : i_Rel k u v) (hk : k + 4 ≤ 2048) (v1 : Int32) (v2 : Int32) : wpX_shift (fun r u' => wpY_shift (fun r' v' => r' = r ∧ i_Rel (k + 4) u' v') v v1 v2) u v1 v2 := by
  obtain ⟨f, m, t⟩ := u
  obtain ⟨g, a, o⟩ := v
  obtain ⟨e, h⟩ := I
  dsimp only at e h
  have e2 := e.symm
  subst e2
  unfold wpX_shift
  dsimp only
  rcases rc_set v1 with ⟨sx, sy⟩ | ⟨s, hs, rfl, sx, sy⟩
  · refine sx _ (br_t rfl ?_)
    unfold wpY_shift
    dsimp only
    exact sy _ _ _ _ (br_f rc_10 ⟨rfl, rfl, h⟩)
  · refine sx _ (br_f rc_10 ?_)
    unfold wpY_shift
    dsimp only
    have l1 : (-512 : Int32).toInt = -512 := by decide
    have l2 : (-511 : Int32).toInt = -511 := by decide
    have l3 : (512 : Int32).toInt = 512 := by decide
    have l4 : (511 : Int32).toInt = 511 := by decide
    by_cases hA : v2 ≤ -512
    · have hA2 : v2 < -511 := by
        rw [Int32.le_iff_toInt_le, l1] at hA
        rw [Int32.lt_iff_toInt_lt, l2]
        omega
      exact br_t hA (sy _ _ _ _ (br_t rfl (br_t hA2 ⟨rfl, rfl, h⟩)))
    · have hA2 : ¬ v2 < -511 := by
        rw [Int32.le_iff_toInt_le, l1] at hA
        rw [Int32.lt_iff_toInt_lt, l2]
        omega
      by_cases hB : v2 < 512
      · have hB2 : v2 ≤ 511 := by
          rw [Int32.lt_iff_toInt_lt, l3] at hB
          rw [Int32.le_iff_toInt_le, l4]
          omega
        by_cases hC : v2 ≤ 0
        · have i1 : -512 < v2.toInt := by
            rw [Int32.le_iff_toInt_le, l1] at hA
            omega
          have i2 : v2.toInt ≤ 0 := by
            rw [Int32.le_iff_toInt_le, Int32.toInt_zero] at hC
            exact hC
          have hp1 : -v2 = nI (-v2.toInt).toNat := by
            apply Int32.toInt_inj.mp
            rw [Int32.toInt_neg, nI_toInt (by omega), Int.bmod_eq_of_le (by omega) (by omega)]
            omega
          obtain ⟨r, m', a', o', hR, h1, h2⟩ := rc_sD h hs (d := (-v2.toInt).toNat) (by omega) hp1 (fun x => by rw [Int32.sub_eq_add_neg, hp1, nI_add]) o
          exact br_f hA (br_t hB (br_t hC (h1 _ g (sy _ _ _ _ (br_t rfl (br_f hA2 (br_t hB2 ⟨513, h2 _ g ⟨rfl, rfl, hR⟩⟩)))))))
        · have h0 : ¬ v2 < 0 := fun q => hC (Int32.le_of_lt q)
          obtain ⟨d, hd, rfl⟩ := nI_of h0
          have hd0 : 0 < d := by
            rcases Nat.eq_zero_or_pos d with z | z
            · exact absurd (by rw [z, nI_0]; decide) hC
            · exact z
          have hd5 : d < 512 := by
            rw [← rc_512] at hB
            exact (nI_ltI hd (by decide)).mp hB
          obtain ⟨r, m', a', o', hR, h1, h2⟩ := rc_sU h hs hd0 hd5 o
          exact br_f hA (br_t hB (br_f hC (h1 _ g (sy _ _ _ _ (br_t rfl (br_f hA2 (br_t hB2 ⟨513, h2 _ g ⟨rfl, rfl, hR⟩⟩)))))))
      · have hB2 : ¬ v2 ≤ 511 := by
          rw [Int32.lt_iff_toInt_lt, l3] at hB
          rw [Int32.le_iff_toInt_le, l4]
          omega
        exact br_f hA (br_f hB (sy _ _ _ _ (br_t rfl (br_f hA2 (br_f hB2 ⟨rfl, rfl, h⟩)))))
end
section
/-! owed: write, read -/
theorem i_vc_write {k : Nat} {u : SX} {v : SY} (I : i_Rel k u v) (hk : k + 4 ≤ 2048) (v1 : Int32) : wpX_write (fun r u' => wpY_write (fun r' v' => r' = r ∧ i_Rel (k + 4) u' v') v v1) u v1 := by
  obtain ⟨f, m, t⟩ := u
  obtain ⟨g, a, o⟩ := v
  obtain ⟨e, h⟩ := I
  dsimp only at e h
  have e2 := e.symm
  subst e2
  unfold wpX_write
  dsimp only
  rcases rc_set v1 with ⟨sx, sy⟩ | ⟨s, hs, rfl, sx, sy⟩
  · refine sx _ (br_t rfl ?_)
    unfold wpY_write
    dsimp only
    exact sy _ _ _ _ (br_f rc_10 ⟨rfl, rfl, h⟩)
  · refine sx _ (br_f rc_10 ?_)
    obtain ⟨t', a', hR, h1, h2⟩ := rc_wri hs 512 0 rfl t a h
    rw [nI_0] at h1 h2
    unfold wpY_write wpY_copy
    dsimp only
    exact nm_r (rc_bX s) ⟨_, h1 _ g (sy _ _ _ _ (br_t rfl ⟨_, h2 _ g o ⟨rfl, rfl, hR⟩⟩))⟩
theorem i_vc_read {k : Nat} {u : SX} {v : SY} (I : i_Rel k u v) (hk : k + 4 ≤ 2048) (v1 : Int32) : wpX_read (fun r u' => wpY_read (fun r' v' => r' = r ∧ i_Rel (k + 4) u' v') v v1) u v1 := by
  obtain ⟨f, m, t⟩ := u
  obtain ⟨g, a, o⟩ := v
  obtain ⟨e, h⟩ := I
  dsimp only at e h
  have e2 := e.symm
  subst e2
  unfold wpX_read
  dsimp only
  rcases rc_set v1 with ⟨sx, sy⟩ | ⟨s, hs, rfl, sx, sy⟩
  · refine sx _ (br_t rfl ?_)
    unfold wpY_read
    dsimp only
    exact sy _ _ _ _ (br_f rc_10 ⟨rfl, rfl, h⟩)
  · refine sx _ (br_f rc_10 ?_)
    unfold wpY_read wpY_copy
    dsimp only
    by_cases z : g = 0
    · exact br_t z (sy _ _ _ _ (br_t rfl (br_t z ⟨rfl, rfl, h⟩)))
    · obtain ⟨r, m', a', hR, h1, h2, h3⟩ := rc_rea (t := t) hs 512 0 rfl m a h
      rw [nI_0] at h1 h2
      exact br_f z (nm_r (rc_bX s) ⟨_, h1 _ g (sy _ _ _ _ (br_t rfl (br_f z ⟨_, h2 _ g o (h3 _ g o ⟨rfl, rfl, hR⟩)⟩)))⟩)
end
