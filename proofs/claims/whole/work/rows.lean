section
/-! pasted from the kit's pure rows: stores and numbers -/
theorem pk_us {f : Nat → Int32} {k : Nat} {x : Int32} : upd f k x k = x := if_pos rfl
theorem pk_un {f : Nat → Int32} {k j : Nat} {x : Int32} (h : j ≠ k) : upd f k x j = f j := if_neg h
theorem pk_sub {a b : Nat} (h : b ≤ a) : nI a - nI b = nI (a - b) := by
  obtain ⟨c, rfl⟩ : ∃ c, a = c + b := ⟨a - b, by omega⟩
  rw [← nI_add, Int32.add_sub_cancel, Nat.add_sub_cancel]
theorem pk_m1 (n : Nat) : nI (n + 1) + (-1) = nI n := by
  rw [← nI_1, Int32.add_assoc, show (1 : Int32) + (-1) = 0 from rfl, Int32.add_zero]
theorem pk_mul (a b : Nat) : nI a * nI b = nI (a * b) := (Int32.ofNat_mul a b).symm
theorem pk_div {a d : Nat} (ha : a < 2 ^ 31) (h0 : 0 < d) (hd : d < 2 ^ 31) : nI a / nI d = nI (a / d) := by
  apply Int32.toInt_inj.mp
  rw [lg_idiv_nonneg (by rw [nI_toInt ha]; omega) (by rw [nI_toInt hd]; omega), nI_toInt ha, nI_toInt hd, nI_toInt (Nat.lt_of_le_of_lt (Nat.div_le_self a d) ha)]
  first | rfl | exact (Int.natCast_ediv _ _).symm
theorem pk_rem {a d : Nat} (ha : a < 2 ^ 31) (h0 : 0 < d) (hd : d < 2 ^ 31) : nI a - nI a / nI d * nI d = nI (a % d) := by
  rw [pk_div ha h0 hd, pk_mul, pk_sub (Nat.div_mul_le_self a d)]
  exact congrArg nI (by have := Nat.div_add_mod' a d; omega)
theorem pk_sub_toInt {a b : Nat} (ha : a < 2 ^ 30) (hb : b < 2 ^ 30) : (nI a - nI b).toInt = (a : Int) - b := by
  rw [Int32.toInt_sub, nI_toInt (by omega), nI_toInt (by omega)]
  exact Int.bmod_eq_of_le (by omega) (by omega)
theorem pk_sneg {a b : Nat} (hb : b < 2 ^ 30) (h : a < b) : nI a - nI b < 0 := by
  rw [Int32.lt_iff_toInt_lt, pk_sub_toInt (by omega) hb, show (0 : Int32).toInt = 0 from by decide]
  omega
/-! the numbers of the claim -/
theorem rc_3 : nI 3 = 3 := by decide +kernel
theorem rc_256 : nI 256 = 256 := by decide +kernel
theorem rc_512 : nI 512 = 512 := by decide +kernel
theorem rc_511 : nI 511 = 511 := by decide +kernel
theorem rc_m1 : nI 0 + (-1) = -1 := by decide +kernel
theorem rc_L {a b : Nat} (h : a + b < 2 ^ 31) : (nI a + nI b).toNatClampNeg = a + b := by rw [nI_add, nI_clamp h]
/-- the component's base of a set -/
theorem rc_bX (s : Nat) : nI s * 512 = nI (s * 512) := by rw [← rc_512, pk_mul]
theorem rc_bY (s x : Nat) : 512 * nI s + nI x = nI (s * 512 + x) := by rw [← rc_512, pk_mul, nI_add, Nat.mul_comm]
theorem rc_b3 (x : Nat) : (512 : Int32) * 3 + nI x = nI (1536 + x) := by rw [← rc_3]; exact rc_bY 3 x
theorem rc_iX {B x : Nat} (h : B + x < 1536) : (nI B + nI x).toNatClampNeg = B + x := by rw [nI_add, nI_clamp (by omega)]
theorem rc_iY {s x : Nat} (h : s * 512 + x < 2048) : (512 * nI s + nI x).toNatClampNeg = s * 512 + x := by rw [rc_bY, nI_clamp (by omega)]
theorem rc_i3 {x : Nat} (h : x < 512) : ((512 : Int32) * 3 + nI x).toNatClampNeg = 1536 + x := by rw [rc_b3, nI_clamp (by omega)]
theorem rc_vX {B x : Nat} (h : B + x < 1536) : vp_in (nI B + nI x) 1536 := by rw [nI_add]; exact vp_in_nI h (by decide)
theorem rc_vY {s x : Nat} (h : s * 512 + x < 2048) : vp_in (512 * nI s + nI x) 2048 := by rw [rc_bY]; exact vp_in_nI h (by decide)
theorem rc_v3 {x : Nat} (h : x < 512) : vp_in ((512 : Int32) * 3 + nI x) 2048 := by rw [rc_b3]; exact vp_in_nI (by omega) (by decide)
theorem rc_lt {x : Nat} (h : x < 512) : ¬ (512 : Int32) ≤ nI x := by rw [← rc_512]; exact nI_ge h (by decide)
theorem rc_ge {x : Nat} (h : 512 ≤ x) (hx : x < 2 ^ 31) : (512 : Int32) ≤ nI x := by rw [← rc_512]; exact nI_le h hx
/-! the relation -/
def rc_01 (x : Int32) : Prop := x = 0 ∨ x = 1
theorem rc_n0 : vp_nar .boolean 0 = 0 := by decide +kernel
theorem rc_n1 : vp_nar .boolean 1 = 1 := by decide +kernel
theorem rc_nar {x : Int32} (h : rc_01 x) : vp_nar .boolean x = x := by
  rcases h with h | h
  · rw [h, rc_n0]
  · rw [h, rc_n1]
theorem rc_one {x : Int32} (h : rc_01 x) (z : ¬ x = 0) : x = 1 := h.resolve_left z
theorem rc_10 : ¬ (1 : Int32) = 0 := by decide
/-- the component's places and tape, the reference's places: the tape is its fourth set -/
def rc_R (m t a : Nat → Int32) : Prop := (∀ i, i < 1536 → m i = a i) ∧ (∀ i, i < 512 → t i = a (1536 + i)) ∧ (∀ i, i < 2048 → rc_01 (a i))
def i_Rel (_ : Nat) (u : SX) (v : SY) : Prop := u.1 = v.1 ∧ rc_R u.2.1 u.2.2 v.2.1
theorem i_up {k : Nat} {u : SX} {v : SY} (h : i_Rel k u v) : i_Rel (k + 4) u v := h
theorem i_vc0 : wpX_init (fun u => wpY_init (fun v => i_Rel 0 u v)) := ⟨rfl, fun _ _ => rfl, fun _ _ => rfl, fun _ _ => Or.inl rfl⟩
theorem rc_rd {m t a : Nat → Int32} (h : rc_R m t a) {B x : Nat} (hx : B + x < 1536) : m (nI B + nI x).toNatClampNeg = a (B + x) := by
  rw [rc_iX hx]; exact h.1 _ hx
theorem rc_ry {a : Nat → Int32} {s x : Nat} (hx : s * 512 + x < 2048) : a (512 * nI s + nI x).toNatClampNeg = a (s * 512 + x) := by
  rw [rc_iY hx]
theorem rc_R_upd {m t a : Nat → Int32} (h : rc_R m t a) {i : Nat} (hi : i < 1536) {w : Int32} (hw : rc_01 w) : rc_R (upd m i w) t (upd a i w) := by
  refine ⟨fun j hj => ?_, fun j hj => ?_, fun j hj => ?_⟩
  · by_cases e : j = i
    · rw [e, pk_us, pk_us]
    · rw [pk_un e, pk_un e]; exact h.1 j hj
  · rw [pk_un (by omega)]; exact h.2.1 j hj
  · by_cases e : j = i
    · rw [e, pk_us]; exact hw
    · rw [pk_un e]; exact h.2.2 j hj
theorem rc_R_updY {m t a : Nat → Int32} (h : rc_R m t a) {i : Nat} (hi : i < 1536) {w : Int32} (e0 : a i = w) : rc_R m t (upd a i w) := by
  have e : upd a i w = a := by
    funext j
    by_cases e : j = i
    · rw [e, pk_us, e0]
    · rw [pk_un e]
  rw [e]; exact h
theorem rc_R_updT {m t a : Nat → Int32} (h : rc_R m t a) {i : Nat} (hi : i < 512) {w : Int32} (hw : rc_01 w) : rc_R m (upd t i w) (upd a (1536 + i) w) := by
  refine ⟨fun j hj => ?_, fun j hj => ?_, fun j hj => ?_⟩
  · rw [pk_un (by omega)]; exact h.1 j hj
  · by_cases e : j = i
    · rw [e, pk_us, pk_us]
    · rw [pk_un e, pk_un (by omega)]; exact h.2.1 j hj
  · by_cases e : j = 1536 + i
    · rw [e, pk_us]; exact hw
    · rw [pk_un e]; exact h.2.2 j hj
/-! the refusals -/
theorem rc_set (p : Int32) :
    ((∀ post : Int32 → Prop, post 0 → wpX_isSet post p) ∧ (∀ (post : Int32 → Prop) (g : Int32) (a o : Nat → Int32), post 1 → wpY_badSet post (g, a, o) p)) ∨
    (∃ s : Nat, s < 3 ∧ p = nI s ∧ (∀ post : Int32 → Prop, post 1 → wpX_isSet post p) ∧ (∀ (post : Int32 → Prop) (g : Int32) (a o : Nat → Int32), post 0 → wpY_badSet post (g, a, o) p)) := by
  by_cases h0 : p < 0
  · exact Or.inl ⟨fun _ hp => br_t h0 hp, fun _ _ _ _ hp => br_t h0 hp⟩
  · obtain ⟨s, hs, rfl⟩ := nI_of h0
    by_cases h3 : s < 3
    · exact Or.inr ⟨s, h3, rfl, fun _ hp => br_f h0 (br_f (nI_ge (b := 3) h3 (by decide)) hp), fun _ _ _ _ hp => br_f h0 (br_t (nI_le (b := 2) (by omega) (by decide)) hp)⟩
    · exact Or.inl ⟨fun _ hp => br_f h0 (br_t (nI_le (a := 3) (by omega) hs) hp), fun _ _ _ _ hp => br_f h0 (br_f (nI_ge (a := 2) (by omega) hs) hp)⟩
theorem rc_num (p : Int32) :
    ((∀ post : Int32 → Prop, post 0 → wpX_isNumber post p) ∧ (∀ (post : Int32 → Prop) (g : Int32) (a o : Nat → Int32), post 1 → wpY_badNumber post (g, a, o) p)) ∨
    (∃ s : Nat, s < 512 ∧ p = nI s ∧ (∀ post : Int32 → Prop, post 1 → wpX_isNumber post p) ∧ (∀ (post : Int32 → Prop) (g : Int32) (a o : Nat → Int32), post 0 → wpY_badNumber post (g, a, o) p)) := by
  by_cases h0 : p < 0
  · exact Or.inl ⟨fun _ hp => br_t h0 hp, fun _ _ _ _ hp => br_t h0 hp⟩
  · obtain ⟨s, hs, rfl⟩ := nI_of h0
    by_cases h3 : s < 512
    · exact Or.inr ⟨s, h3, rfl, fun _ hp => br_f h0 (br_f (rc_lt h3) hp), fun _ _ _ _ hp => br_f h0 (br_t (by rw [← rc_511]; exact nI_le (by omega) (by decide)) hp)⟩
    · exact Or.inl ⟨fun _ hp => br_f h0 (br_t (rc_ge (by omega) hs) hp), fun _ _ _ _ hp => br_f h0 (br_f (by rw [← rc_511]; exact nI_ge (by omega) hs) hp)⟩
theorem rc_rng (p q : Int32) :
    ((∀ post : Int32 → Prop, post 0 → wpX_isRange post p q) ∧ (∀ (post : Int32 → Prop) (g : Int32) (a o : Nat → Int32), post 1 → wpY_badRange post (g, a, o) p q)) ∨
    (∃ x y : Nat, x ≤ y ∧ y < 512 ∧ p = nI x ∧ q = nI y ∧ (∀ post : Int32 → Prop, post 1 → wpX_isRange post p q) ∧ (∀ (post : Int32 → Prop) (g : Int32) (a o : Nat → Int32), post 0 → wpY_badRange post (g, a, o) p q)) := by
  by_cases h0 : p < 0
  · exact Or.inl ⟨fun _ hp => br_t h0 hp, fun _ _ _ _ hp => br_t h0 hp⟩
  · by_cases h1 : q < p
    · exact Or.inl ⟨fun _ hp => br_f h0 (br_t h1 hp), fun _ _ _ _ hp => br_f h0 (br_t h1 hp)⟩
    · obtain ⟨x, hx, rfl⟩ := nI_of h0
      have hq : ¬ q < 0 := fun z => h1 (Int32.lt_of_lt_of_le z (nI_pos' hx))
      obtain ⟨y, hy, rfl⟩ := nI_of hq
      have hxy : x ≤ y := by
        have := mt (nI_ltI hy hx).mpr h1
        omega
      by_cases h3 : y < 512
      · exact Or.inr ⟨x, y, hxy, h3, rfl, rfl, fun _ hp => br_f h0 (br_f h1 (br_f (rc_lt h3) hp)), fun _ _ _ _ hp => br_f h0 (br_f h1 (br_t (by rw [← rc_511]; exact nI_le (by omega) (by decide)) hp))⟩
      · exact Or.inl ⟨fun _ hp => br_f h0 (br_f h1 (br_t (rc_ge (by omega) hy) hp)), fun _ _ _ _ hp => br_f h0 (br_f h1 (br_f (by rw [← rc_511]; exact nI_ge (by omega) hy) hp))⟩
end
section
/-! loops that only read, in step: one answer for both sides -/
theorem rc_cnt {m t a : Nat → Int32} (h : rc_R m t a) {s : Nat} (hs : s < 3) (E : Nat) (hE : E ≤ 512) (e p : Int32)
    (he1 : ∀ x, x < E → ¬ e ≤ nI x) (he2 : e ≤ nI E) (hp1 : ∀ x, x < E → ¬ p ≤ nI x) (hp2 : E = 512 ∨ p ≤ nI E) :
    ∀ d x : Nat, x + d = E → ∀ c : Int32, ∃ r : Int32,
      (∀ (post : Int32 → Prop) (f : Int32) (t : Nat → Int32), post r → wX_countBelow_28 post (nI (s * 512)) e f m t (d + 1) c (nI x)) ∧
      (∀ (post : Int32 → Prop) (g : Int32) (o : Nat → Int32), post r → wY_rank_15 post (nI s) p g a o (d + 1) c (nI x)) := by
  intro d
  induction d with
  | zero =>
    intro x hx c
    have hx : x = E := by omega
    subst hx
    refine ⟨c, fun _ _ _ hp => br_t he2 hp, fun _ _ _ hp => ?_⟩
    by_cases z : 512 ≤ x
    · exact br_t (rc_ge z (by omega)) hp
    · exact br_f (rc_lt (by omega)) (br_t (hp2.resolve_left (by omega)) hp)
  | succ d ih =>
    intro x hx c
    have hi : s * 512 + x < 1536 := by omega
    have hy : s * 512 + x < 2048 := by omega
    have h5 : ¬ (512 : Int32) ≤ nI x := rc_lt (by omega)
    have hX := he1 x (by omega)
    have hY := hp1 x (by omega)
    by_cases z : a (s * 512 + x) = 0
    · obtain ⟨r, h1, h2⟩ := ih (x + 1) (by omega) c
      exact ⟨r, fun post f t hp => br_f hX ⟨rc_vX hi, br_t ((rc_rd h hi).trans z) (nm_r (nI_1 x) (h1 post f t hp))⟩,
        fun post g o hp => br_f h5 (br_f hY ⟨rc_vY hy, br_t ((rc_ry hy).trans z) (nm_r (nI_1 x) (h2 post g o hp))⟩)⟩
    · obtain ⟨r, h1, h2⟩ := ih (x + 1) (by omega) (c + 1)
      exact ⟨r, fun post f t hp => br_f hX ⟨rc_vX hi, br_f (fun q => z ((rc_rd h hi).symm.trans q)) (nm_e (nm_r (nI_1 x) (h1 post f t hp)))⟩,
        fun post g o hp => br_f h5 (br_f hY ⟨rc_vY hy, br_f (fun q => z ((rc_ry hy).symm.trans q)) (nm_e (nm_r (nI_1 x) (h2 post g o hp)))⟩)⟩
theorem rc_cnM {m t a : Nat → Int32} (h : rc_R m t a) {s : Nat} (hs : s < 3) :
    ∀ d x : Nat, x + d = 512 → ∀ c : Int32, ∃ r : Int32,
      (∀ (post : Int32 → Prop) (f : Int32) (t : Nat → Int32), post r → wX_countBelow_28 post (nI (s * 512)) 512 f m t (d + 1) c (nI x)) ∧
      (∀ (post : Int32 → Prop) (g : Int32) (o : Nat → Int32), post r → wY_many_4 post (nI s) g a o (d + 1) c (nI x)) := by
  intro d
  induction d with
  | zero =>
    intro x hx c
    have hg : (512 : Int32) ≤ nI x := rc_ge (by omega) (by omega)
    exact ⟨c, fun _ _ _ hp => br_t hg hp, fun _ _ _ hp => br_t hg hp⟩
  | succ d ih =>
    intro x hx c
    have hi : s * 512 + x < 1536 := by omega
    have hy : s * 512 + x < 2048 := by omega
    have h5 : ¬ (512 : Int32) ≤ nI x := rc_lt (by omega)
    by_cases z : a (s * 512 + x) = 0
    · obtain ⟨r, h1, h2⟩ := ih (x + 1) (by omega) c
      exact ⟨r, fun post f t hp => br_f h5 ⟨rc_vX hi, br_t ((rc_rd h hi).trans z) (nm_r (nI_1 x) (h1 post f t hp))⟩,
        fun post g o hp => br_f h5 ⟨rc_vY hy, br_t ((rc_ry hy).trans z) (nm_r (nI_1 x) (h2 post g o hp))⟩⟩
    · obtain ⟨r, h1, h2⟩ := ih (x + 1) (by omega) (c + 1)
      exact ⟨r, fun post f t hp => br_f h5 ⟨rc_vX hi, br_f (fun q => z ((rc_rd h hi).symm.trans q)) (nm_e (nm_r (nI_1 x) (h1 post f t hp)))⟩,
        fun post g o hp => br_f h5 ⟨rc_vY hy, br_f (fun q => z ((rc_ry hy).symm.trans q)) (nm_e (nm_r (nI_1 x) (h2 post g o hp)))⟩⟩
/-- how many a set has: countBelow(set, 512) and many(set) -/
theorem rc_count {m t a : Nat → Int32} (h : rc_R m t a) {s : Nat} (hs : s < 3) : ∃ r : Int32,
      (∀ (post : Int32 → Prop) (f : Int32) (t : Nat → Int32), post r → wpX_countBelow post (f, m, t) (nI s) 512) ∧
      (∀ (post : Int32 → Prop) (g : Int32) (o : Nat → Int32), post r → wpY_many post (g, a, o) (nI s)) := by
  obtain ⟨r, h1, h2⟩ := rc_cnM h hs 512 0 rfl 0
  rw [nI_0] at h1 h2
  refine ⟨r, fun post f t hp => ?_, fun post g o hp => ?_⟩
  · unfold wpX_countBelow
    dsimp only
    exact nm_r (rc_bX s) (br_t (by decide) ⟨_, h1 post f t hp⟩)
  · unfold wpY_many
    dsimp only
    exact ⟨_, h2 post g o hp⟩
theorem rc_sel {m t a : Nat → Int32} (h : rc_R m t a) {s : Nat} (hs : s < 3) (k : Int32) :
    ∀ d x : Nat, x + d = 512 → ∀ c : Int32, ∃ r : Int32,
      (∀ (post : Int32 → Prop) (f : Int32) (t : Nat → Int32), post r → wX_select_28 post k (nI (s * 512)) f m t (d + 1) c (nI x)) ∧
      (∀ (post : Int32 → Prop) (g : Int32) (o : Nat → Int32), post r → wY_select_15 post (nI s) k g a o (d + 1) c (nI x)) := by
  intro d
  induction d with
  | zero =>
    intro x hx c
    have hg : (512 : Int32) ≤ nI x := rc_ge (by omega) (by omega)
    exact ⟨-2, fun _ _ _ hp => br_t hg hp, fun _ _ _ hp => br_t hg hp⟩
  | succ d ih =>
    intro x hx c
    have hi : s * 512 + x < 1536 := by omega
    have hy : s * 512 + x < 2048 := by omega
    have h5 : ¬ (512 : Int32) ≤ nI x := rc_lt (by omega)
    by_cases z : a (s * 512 + x) = 0
    · obtain ⟨r, h1, h2⟩ := ih (x + 1) (by omega) c
      exact ⟨r, fun post f t hp => br_f h5 ⟨rc_vX hi, br_t ((rc_rd h hi).trans z) (nm_r (nI_1 x) (h1 post f t hp))⟩,
        fun post g o hp => br_f h5 ⟨rc_vY hy, br_t ((rc_ry hy).trans z) (nm_r (nI_1 x) (h2 post g o hp))⟩⟩
    · by_cases e : c = k
      · exact ⟨nI x, fun post f t hp => br_f h5 ⟨rc_vX hi, br_f (fun q => z ((rc_rd h hi).symm.trans q)) (br_t e hp)⟩,
          fun post g o hp => br_f h5 ⟨rc_vY hy, br_f (fun q => z ((rc_ry hy).symm.trans q)) (br_t e hp)⟩⟩
      · obtain ⟨r, h1, h2⟩ := ih (x + 1) (by omega) (c + 1)
        exact ⟨r, fun post f t hp => br_f h5 ⟨rc_vX hi, br_f (fun q => z ((rc_rd h hi).symm.trans q)) (br_f e (nm_e (nm_r (nI_1 x) (h1 post f t hp))))⟩,
          fun post g o hp => br_f h5 ⟨rc_vY hy, br_f (fun q => z ((rc_ry hy).symm.trans q)) (br_f e (nm_e (nm_r (nI_1 x) (h2 post g o hp))))⟩⟩
theorem rc_selN {a : Nat → Int32} {s : Nat} (hs : s < 3) {k : Int32} (hk : k < 0) (post : Int32 → Prop) (g : Int32) (o : Nat → Int32) (hp : post (-2)) :
    ∀ d x : Nat, x + d = 512 → ∀ c : Nat, c ≤ x → wY_select_15 post (nI s) k g a o (d + 1) (nI c) (nI x) := by
  intro d
  induction d with
  | zero =>
    intro x hx c hc
    exact br_t (rc_ge (by omega) (by omega)) hp
  | succ d ih =>
    intro x hx c hc
    have hy : s * 512 + x < 2048 := by omega
    have h5 : ¬ (512 : Int32) ≤ nI x := rc_lt (by omega)
    have e : ¬ nI c = k := fun q => nI_pos (n := c) (by omega) (by rw [q]; exact hk)
    by_cases z : a (s * 512 + x) = 0
    · exact br_f h5 ⟨rc_vY hy, br_t ((rc_ry hy).trans z) (nm_r (nI_1 x) (ih (x + 1) (by omega) c (by omega)))⟩
    · exact br_f h5 ⟨rc_vY hy, br_f (fun q => z ((rc_ry hy).symm.trans q)) (br_f e (nm_r (nI_1 c) (nm_r (nI_1 x) (ih (x + 1) (by omega) (c + 1) (by omega)))))⟩
theorem rc_nxt {m t a : Nat → Int32} (h : rc_R m t a) {s : Nat} (hs : s < 3) (p : Int32) :
    ∀ d x : Nat, x + d = 512 → (∀ y, x ≤ y → y < 512 → ¬ nI y < p) → ∃ r : Int32,
      (∀ (post : Int32 → Prop) (f : Int32) (t : Nat → Int32), post r → wX_next_30 post (nI (s * 512)) f m t (d + 1) (nI x)) ∧
      (∀ (post : Int32 → Prop) (g : Int32) (o : Nat → Int32), post r → wY_next_12 post (nI s) p g a o (d + 1) (nI x)) := by
  intro d
  induction d with
  | zero =>
    intro x hx _
    have hg : (512 : Int32) ≤ nI x := rc_ge (by omega) (by omega)
    exact ⟨-2, fun _ _ _ hp => br_t hg hp, fun _ _ _ hp => br_t hg hp⟩
  | succ d ih =>
    intro x hx hn
    have hi : s * 512 + x < 1536 := by omega
    have hy : s * 512 + x < 2048 := by omega
    have h5 : ¬ (512 : Int32) ≤ nI x := rc_lt (by omega)
    have h6 := hn x (by omega) (by omega)
    by_cases z : a (s * 512 + x) = 0
    · obtain ⟨r, h1, h2⟩ := ih (x + 1) (by omega) (fun y h1 h2 => hn y (by omega) h2)
      exact ⟨r, fun post f t hp => br_f h5 ⟨rc_vX hi, br_t ((rc_rd h hi).trans z) (nm_r (nI_1 x) (h1 post f t hp))⟩,
        fun post g o hp => br_f h5 (br_f h6 ⟨rc_vY hy, br_t ((rc_ry hy).trans z) (nm_r (nI_1 x) (h2 post g o hp))⟩)⟩
    · exact ⟨nI x, fun post f t hp => br_f h5 ⟨rc_vX hi, br_f (fun q => z ((rc_rd h hi).symm.trans q)) hp⟩,
        fun post g o hp => br_f h5 (br_f h6 ⟨rc_vY hy, br_f (fun q => z ((rc_ry hy).symm.trans q)) hp⟩)⟩
theorem rc_nxS {a : Nat → Int32} {s : Nat} (p : Int32) (E : Nat) (hE : E ≤ 512) (hp : ∀ y, y < E → nI y < p) (post : Int32 → Prop) (g : Int32) (o : Nat → Int32) (n : Nat)
    (hw : wY_next_12 post (nI s) p g a o n (nI E)) : ∀ d x : Nat, x + d = E → wY_next_12 post (nI s) p g a o (n + d) (nI x) := by
  intro d
  induction d with
  | zero =>
    intro x hx
    have hx : x = E := by omega
    subst hx
    exact hw
  | succ d ih =>
    intro x hx
    exact br_f (rc_lt (by omega)) (br_t (hp x (by omega)) (nm_r (nI_1 x) (ih (x + 1) (by omega))))
theorem rc_neg : nI 0 + (-1) < 0 := by decide +kernel
theorem rc_prv {m t a : Nat → Int32} (h : rc_R m t a) {s : Nat} (hs : s < 3) (p : Int32) :
    ∀ k : Nat, k ≤ 512 → (∀ y, y < k → ¬ p < nI y) → ∃ r : Int32,
      (∀ (post : Int32 → Prop) (f : Int32) (t : Nat → Int32), post r → wX_previous_35 post (nI (s * 512)) f m t (k + 1) (nI k + (-1))) ∧
      (∀ (post : Int32 → Prop) (g : Int32) (o : Nat → Int32), post r → wY_previous_14 post (nI s) p g a o (k + 1) (nI k + (-1))) := by
  intro k
  induction k with
  | zero =>
    intro _ _
    exact ⟨-2, fun _ _ _ hp => br_t rc_neg hp, fun _ _ _ hp => br_t rc_neg hp⟩
  | succ x ih =>
    intro hx hn
    have hi : s * 512 + x < 1536 := by omega
    have hy : s * 512 + x < 2048 := by omega
    have h5 : ¬ nI x < 0 := nI_pos (by omega)
    have h6 := hn x (by omega)
    rw [pk_m1]
    by_cases z : a (s * 512 + x) = 0
    · obtain ⟨r, h1, h2⟩ := ih (by omega) (fun y h1 => hn y (by omega))
      exact ⟨r, fun post f t hp => br_f h5 ⟨rc_vX hi, br_t ((rc_rd h hi).trans z) (nm_e (h1 post f t hp))⟩,
        fun post g o hp => br_f h5 (br_f h6 ⟨rc_vY hy, br_t ((rc_ry hy).trans z) (nm_e (h2 post g o hp))⟩)⟩
    · exact ⟨nI x, fun post f t hp => br_f h5 ⟨rc_vX hi, br_f (fun q => z ((rc_rd h hi).symm.trans q)) hp⟩,
        fun post g o hp => br_f h5 (br_f h6 ⟨rc_vY hy, br_f (fun q => z ((rc_ry hy).symm.trans q)) hp⟩)⟩
theorem rc_pvS {a : Nat → Int32} {s : Nat} (p : Int32) (J : Nat) (hp : ∀ y, J ≤ y → y < 512 → p < nI y) (post : Int32 → Prop) (g : Int32) (o : Nat → Int32) (n : Nat)
    (hw : wY_previous_14 post (nI s) p g a o n (nI J + (-1))) : ∀ d : Nat, J + d ≤ 512 → wY_previous_14 post (nI s) p g a o (n + d) (nI (J + d) + (-1)) := by
  intro d
  induction d with
  | zero => intro _; exact hw
  | succ d ih =>
    intro hd
    rw [← Nat.add_assoc J d 1, pk_m1]
    exact br_f (nI_pos (by omega)) (br_t (hp (J + d) (by omega) (by omega)) (nm_e (ih (by omega))))
theorem rc_gap {m t a : Nat → Int32} (h : rc_R m t a) {s : Nat} (hs : s < 3) :
    ∀ d x : Nat, x + d = 512 → ∃ r : Int32,
      (∀ (post : Int32 → Prop) (f : Int32) (t : Nat → Int32), post r → wX_gap_28 post (nI (s * 512)) f m t (d + 1) (nI x)) ∧
      (∀ (post : Int32 → Prop) (g : Int32) (o : Nat → Int32), post r → wY_gap_23 post (nI s) g a o (d + 1) (nI x)) := by
  intro d
  induction d with
  | zero =>
    intro x hx
    have hg : (512 : Int32) ≤ nI x := rc_ge (by omega) (by omega)
    exact ⟨-3, fun _ _ _ hp => br_t hg hp, fun _ _ _ hp => br_t hg hp⟩
  | succ d ih =>
    intro x hx
    have hi : s * 512 + x < 1536 := by omega
    have hy : s * 512 + x < 2048 := by omega
    have h5 : ¬ (512 : Int32) ≤ nI x := rc_lt (by omega)
    by_cases z : a (s * 512 + x) = 0
    · exact ⟨nI x, fun post f t hp => br_f h5 ⟨rc_vX hi, br_t ((rc_rd h hi).trans z) hp⟩,
        fun post g o hp => br_f h5 ⟨rc_vY hy, br_t ((rc_ry hy).trans z) hp⟩⟩
    · obtain ⟨r, h1, h2⟩ := ih (x + 1) (by omega)
      exact ⟨r, fun post f t hp => br_f h5 ⟨rc_vX hi, br_f (fun q => z ((rc_rd h hi).symm.trans q)) (nm_r (nI_1 x) (h1 post f t hp))⟩,
        fun post g o hp => br_f h5 ⟨rc_vY hy, br_f (fun q => z ((rc_ry hy).symm.trans q)) (nm_r (nI_1 x) (h2 post g o hp))⟩⟩
end
section
/-! runs, and two sets held against each other -/
theorem rc_run {m t a : Nat → Int32} (h : rc_R m t a) {s : Nat} (hs : s < 3) :
    ∀ d x : Nat, x + d = 512 → ∀ c b : Int32, ((x = 0 ∧ b = 0) ∨ (∃ y, x = y + 1 ∧ b = a (s * 512 + y))) → ∃ r : Int32,
      (∀ (post : Int32 → Prop) (f : Int32) (t : Nat → Int32), post r → wX_runs_23 post (nI (s * 512)) f m t (d + 1) c b (nI x)) ∧
      (∀ (post : Int32 → Prop) (g : Int32) (o : Nat → Int32), post r → wY_runs_14 post (nI s) g a o (d + 1) c (nI x)) := by
  intro d
  induction d with
  | zero =>
    intro x hx c b _
    have hg : (512 : Int32) ≤ nI x := rc_ge (by omega) (by omega)
    exact ⟨c, fun _ _ _ hp => br_t hg hp, fun _ _ _ hp => br_t hg hp⟩
  | succ d ih =>
    intro x hx c b hb
    have hi : s * 512 + x < 1536 := by omega
    have hy : s * 512 + x < 2048 := by omega
    have h5 : ¬ (512 : Int32) ≤ nI x := rc_lt (by omega)
    by_cases z : a (s * 512 + x) = 0
    · obtain ⟨r, h1, h2⟩ := ih (x + 1) (by omega) c (a (s * 512 + x)) (Or.inr ⟨x, rfl, rfl⟩)
      exact ⟨r, fun post f t hp => br_f h5 ⟨rc_vX hi, nm_r (rc_rd h hi) (br_t z (nm_r (nI_1 x) (h1 post f t hp)))⟩,
        fun post g o hp => br_f h5 ⟨rc_vY hy, br_t ((rc_ry hy).trans z) (nm_r (nI_1 x) (h2 post g o hp))⟩⟩
    · have zy : ¬ a (512 * nI s + nI x).toNatClampNeg = 0 := fun q => z ((rc_ry hy).symm.trans q)
      rcases hb with ⟨e0, eb⟩ | ⟨y, e1, eb⟩
      · obtain ⟨r, h1, h2⟩ := ih (x + 1) (by omega) (c + 1) (a (s * 512 + x)) (Or.inr ⟨x, rfl, rfl⟩)
        have x0 : nI x = 0 := by rw [e0, nI_0]
        exact ⟨r, fun post f t hp => br_f h5 ⟨rc_vX hi, nm_r (rc_rd h hi) (br_f z (br_t eb (nm_e (nm_r (nI_1 x) (h1 post f t hp)))))⟩,
          fun post g o hp => br_f h5 ⟨rc_vY hy, br_f zy (br_t x0 (nm_e (nm_r (nI_1 x) (h2 post g o hp))))⟩⟩
      · have x0 : ¬ nI x = 0 := nI_ne0 (by omega) (by omega)
        have ei : (512 * nI s + nI x) - 1 = nI (s * 512 + y) := by rw [rc_bY, e1]; exact nI_pred _
        have hv : vp_in ((512 * nI s + nI x) - 1) 2048 := by rw [ei]; exact vp_in_nI (by omega) (by decide)
        have er : a ((512 * nI s + nI x) - 1).toNatClampNeg = b := by rw [ei, nI_clamp (by omega), eb]
        by_cases zb : b = 0
        · obtain ⟨r, h1, h2⟩ := ih (x + 1) (by omega) (c + 1) (a (s * 512 + x)) (Or.inr ⟨x, rfl, rfl⟩)
          exact ⟨r, fun post f t hp => br_f h5 ⟨rc_vX hi, nm_r (rc_rd h hi) (br_f z (br_t zb (nm_e (nm_r (nI_1 x) (h1 post f t hp)))))⟩,
            fun post g o hp => br_f h5 ⟨rc_vY hy, br_f zy (br_f x0 ⟨hv, br_t (er.trans zb) (nm_e (nm_r (nI_1 x) (h2 post g o hp)))⟩)⟩⟩
        · obtain ⟨r, h1, h2⟩ := ih (x + 1) (by omega) c (a (s * 512 + x)) (Or.inr ⟨x, rfl, rfl⟩)
          exact ⟨r, fun post f t hp => br_f h5 ⟨rc_vX hi, nm_r (rc_rd h hi) (br_f z (br_f zb (nm_r (nI_1 x) (h1 post f t hp))))⟩,
            fun post g o hp => br_f h5 ⟨rc_vY hy, br_f zy (br_f x0 ⟨hv, br_f (fun q => zb (er.symm.trans q)) (nm_r (nI_1 x) (h2 post g o hp))⟩)⟩⟩
/-- what join stores: 0 both, 1 either, 2 just one, 3 left only -/
def rc_jn (k : Nat) (x y : Int32) : Int32 :=
  if k = 0 then (if x = 0 then 0 else if y = 0 then 0 else 1)
  else if k = 1 then (if x = 0 then (if y = 0 then 0 else 1) else 1)
  else if k = 2 then (if x = y then 0 else 1)
  else (if x = 0 then 0 else if y = 0 then 1 else 0)
theorem rc_jn01 (k : Nat) (x y : Int32) : rc_01 (rc_jn k x y) := by
  unfold rc_jn rc_01
  repeat' split
  all_goals first | exact Or.inl rfl | exact Or.inr rfl
theorem rc_jX0 {x y r : Int32} {post : Int32 → Prop} (hr : rc_jn 0 x y = r) (hp : post r) : wpX_isJoined post 0 x y := by
  subst hr
  refine br_f (by decide) (br_f (by decide) (br_t rfl ?_))
  by_cases z : x = 0
  · exact br_t z (by simpa [rc_jn, z] using hp)
  · by_cases w : y = 0
    · exact br_f z (br_t w (by simpa [rc_jn, z, w] using hp))
    · exact br_f z (br_f w (by simpa [rc_jn, z, w] using hp))
theorem rc_jX1 {x y r : Int32} {post : Int32 → Prop} (hr : rc_jn 1 x y = r) (hp : post r) : wpX_isJoined post 1 x y := by
  subst hr
  refine br_f (by decide) (br_f (by decide) (br_f (by decide) (br_t rfl ?_)))
  by_cases z : x = 0
  · by_cases w : y = 0
    · exact br_t z (br_t w (by simpa [rc_jn, z, w] using hp))
    · exact br_t z (br_f w (by simpa [rc_jn, z, w] using hp))
  · exact br_f z (by simpa [rc_jn, z] using hp)
theorem rc_jX2 {x y r : Int32} {post : Int32 → Prop} (hr : rc_jn 2 x y = r) (hp : post r) : wpX_isJoined post 2 x y := by
  subst hr
  refine br_f (by decide) (br_f (by decide) (br_f (by decide) (br_f (by decide) (br_t rfl ?_))))
  by_cases z : x = y
  · exact br_t z (by simpa [rc_jn, z] using hp)
  · exact br_f z (by simpa [rc_jn, z] using hp)
theorem rc_jX3 {x y r : Int32} {post : Int32 → Prop} (hr : rc_jn 3 x y = r) (hp : post r) : wpX_isJoined post 3 x y := by
  subst hr
  refine br_f (by decide) (br_t (by decide) ?_)
  by_cases z : x = 0
  · exact br_t z (by simpa [rc_jn, z] using hp)
  · by_cases w : y = 0
    · exact br_f z (br_t w (by simpa [rc_jn, z, w] using hp))
    · exact br_f z (br_f w (by simpa [rc_jn, z, w] using hp))
theorem rc_jX {k : Nat} (hk : k < 4) {x y : Int32} {post : Int32 → Prop} (hp : post (rc_jn k x y)) : wpX_isJoined post (nI k) x y := by
  match k, hk, hp with
  | 0, _, hp => exact rc_jX0 rfl hp
  | 1, _, hp => exact rc_jX1 rfl hp
  | 2, _, hp => exact rc_jX2 rfl hp
  | 3, _, hp => exact rc_jX3 rfl hp
theorem rc_jY {k : Nat} (hk : k < 4) {x y : Int32} {post : Int32 → Prop} {g : Int32} {a o : Nat → Int32} (hp : post (rc_jn k x y)) : wpY_joined post (g, a, o) (nI k) x y := by
  match k, hk, hp with
  | 0, _, hp =>
    refine br_t (by decide +kernel) ?_
    by_cases z : x = 0
    · exact br_t z (by simpa [rc_jn, z] using hp)
    · by_cases w : y = 0
      · exact br_f z (br_t w (by simpa [rc_jn, z, w] using hp))
      · exact br_f z (br_f w (by simpa [rc_jn, z, w] using hp))
  | 1, _, hp =>
    refine br_f (by decide +kernel) (br_t (by decide +kernel) ?_)
    by_cases z : x = 0
    · by_cases w : y = 0
      · exact br_t z (br_t w (by simpa [rc_jn, z, w] using hp))
      · exact br_t z (br_f w (by simpa [rc_jn, z, w] using hp))
    · exact br_f z (by simpa [rc_jn, z] using hp)
  | 2, _, hp =>
    refine br_f (by decide +kernel) (br_f (by decide +kernel) (br_t (by decide +kernel) ?_))
    by_cases z : x = y
    · exact br_t z (by simpa [rc_jn, z] using hp)
    · exact br_f z (by simpa [rc_jn, z] using hp)
  | 3, _, hp =>
    refine br_f (by decide +kernel) (br_f (by decide +kernel) (br_f (by decide +kernel) ?_))
    by_cases z : x = 0
    · exact br_t z (by simpa [rc_jn, z] using hp)
    · by_cases w : y = 0
      · exact br_f z (br_t w (by simpa [rc_jn, z, w] using hp))
      · exact br_f z (br_f w (by simpa [rc_jn, z, w] using hp))
theorem rc_com {m t a : Nat → Int32} (h : rc_R m t a) {s q : Nat} (hs : s < 3) (hq : q < 3) :
    ∀ d x : Nat, x + d = 512 → ∀ c : Int32, ∃ r : Int32,
      (∀ (post : Int32 → Prop) (f : Int32) (t : Nat → Int32), post r → wX_countJoined_20 post 0 (nI (s * 512)) (nI (q * 512)) f m t (d + 1) c (nI x)) ∧
      (∀ (post : Int32 → Prop) (g : Int32) (o : Nat → Int32), post r → wY_common_23 post (nI s) (nI q) g a o (d + 1) c (nI x)) := by
  intro d
  induction d with
  | zero =>
    intro x hx c
    have hg : (512 : Int32) ≤ nI x := rc_ge (by omega) (by omega)
    exact ⟨c, fun _ _ _ hp => br_t hg hp, fun _ _ _ hp => br_t hg hp⟩
  | succ d ih =>
    intro x hx c
    have hi : s * 512 + x < 1536 := by omega
    have hy : s * 512 + x < 2048 := by omega
    have hj : q * 512 + x < 1536 := by omega
    have hw : q * 512 + x < 2048 := by omega
    have h5 : ¬ (512 : Int32) ≤ nI x := rc_lt (by omega)
    by_cases z : a (s * 512 + x) = 0
    · obtain ⟨r, h1, h2⟩ := ih (x + 1) (by omega) c
      exact ⟨r, fun post f t hp => br_f h5 ⟨rc_vX hi, nm_r (rc_rd h hi) ⟨rc_vX hj, nm_r (rc_rd h hj) (rc_jX0 (r := 0) (by simp [rc_jn, z]) (br_t rfl (nm_r (nI_1 x) (h1 post f t hp))))⟩⟩,
        fun post g o hp => br_f h5 ⟨rc_vY hy, br_t ((rc_ry hy).trans z) (nm_r (nI_1 x) (h2 post g o hp))⟩⟩
    · have zy : ¬ a (512 * nI s + nI x).toNatClampNeg = 0 := fun q => z ((rc_ry hy).symm.trans q)
      by_cases w : a (q * 512 + x) = 0
      · obtain ⟨r, h1, h2⟩ := ih (x + 1) (by omega) c
        exact ⟨r, fun post f t hp => br_f h5 ⟨rc_vX hi, nm_r (rc_rd h hi) ⟨rc_vX hj, nm_r (rc_rd h hj) (rc_jX0 (r := 0) (by simp [rc_jn, z, w]) (br_t rfl (nm_r (nI_1 x) (h1 post f t hp))))⟩⟩,
          fun post g o hp => br_f h5 ⟨rc_vY hy, br_f zy ⟨rc_vY hw, br_t ((rc_ry hw).trans w) (nm_r (nI_1 x) (h2 post g o hp))⟩⟩⟩
      · obtain ⟨r, h1, h2⟩ := ih (x + 1) (by omega) (c + 1)
        exact ⟨r, fun post f t hp => br_f h5 ⟨rc_vX hi, nm_r (rc_rd h hi) ⟨rc_vX hj, nm_r (rc_rd h hj) (rc_jX0 (r := 1) (by simp [rc_jn, z, w]) (br_f rc_10 (nm_e (nm_r (nI_1 x) (h1 post f t hp)))))⟩⟩,
          fun post g o hp => br_f h5 ⟨rc_vY hy, br_f zy ⟨rc_vY hw, br_f (fun q => w ((rc_ry hw).symm.trans q)) (nm_e (nm_r (nI_1 x) (h2 post g o hp)))⟩⟩⟩
theorem rc_wit {m t a : Nat → Int32} (h : rc_R m t a) {s q : Nat} (hs : s < 3) (hq : q < 3) :
    ∀ d x : Nat, x + d = 512 → ∀ c : Nat, c + d ≤ 512 → ∃ r : Nat, c ≤ r ∧ r ≤ 512 ∧
      (∀ (post : Int32 → Prop) (f : Int32) (t : Nat → Int32), post (nI r) → wX_countJoined_20 post 3 (nI (s * 512)) (nI (q * 512)) f m t (d + 1) (nI c) (nI x)) ∧
      (∀ (post : Int32 → Prop) (g : Int32) (o : Nat → Int32), post (if r = c then 1 else 0) → wY_within_20 post (nI s) (nI q) g a o (d + 1) (nI x)) := by
  intro d
  induction d with
  | zero =>
    intro x hx c hc
    have hg : (512 : Int32) ≤ nI x := rc_ge (by omega) (by omega)
    exact ⟨c, by omega, by omega, fun _ _ _ hp => br_t hg hp, fun _ _ _ hp => br_t hg (by rwa [if_pos rfl] at hp)⟩
  | succ d ih =>
    intro x hx c hc
    have hi : s * 512 + x < 1536 := by omega
    have hy : s * 512 + x < 2048 := by omega
    have hj : q * 512 + x < 1536 := by omega
    have hw : q * 512 + x < 2048 := by omega
    have h5 : ¬ (512 : Int32) ≤ nI x := rc_lt (by omega)
    by_cases z : a (s * 512 + x) = 0
    · obtain ⟨r, hr1, hr2, h1, h2⟩ := ih (x + 1) (by omega) c (by omega)
      exact ⟨r, hr1, hr2, fun post f t hp => br_f h5 ⟨rc_vX hi, nm_r (rc_rd h hi) ⟨rc_vX hj, nm_r (rc_rd h hj) (rc_jX3 (r := 0) (by simp [rc_jn, z]) (br_t rfl (nm_r (nI_1 x) (h1 post f t hp))))⟩⟩,
        fun post g o hp => br_f h5 ⟨rc_vY hy, br_t ((rc_ry hy).trans z) (nm_r (nI_1 x) (h2 post g o hp))⟩⟩
    · have zy : ¬ a (512 * nI s + nI x).toNatClampNeg = 0 := fun q => z ((rc_ry hy).symm.trans q)
      by_cases w : a (q * 512 + x) = 0
      · obtain ⟨r, hr1, hr2, h1, h2⟩ := ih (x + 1) (by omega) (c + 1) (by omega)
        exact ⟨r, by omega, hr2, fun post f t hp => br_f h5 ⟨rc_vX hi, nm_r (rc_rd h hi) ⟨rc_vX hj, nm_r (rc_rd h hj) (rc_jX3 (r := 1) (by simp [rc_jn, z, w]) (br_f rc_10 (nm_r (nI_1 c) (nm_r (nI_1 x) (h1 post f t hp)))))⟩⟩,
          fun post g o hp => br_f h5 ⟨rc_vY hy, br_f zy ⟨rc_vY hw, br_t ((rc_ry hw).trans w) (by rwa [if_neg (by omega)] at hp)⟩⟩⟩
      · obtain ⟨r, hr1, hr2, h1, h2⟩ := ih (x + 1) (by omega) c (by omega)
        exact ⟨r, hr1, hr2, fun post f t hp => br_f h5 ⟨rc_vX hi, nm_r (rc_rd h hi) ⟨rc_vX hj, nm_r (rc_rd h hj) (rc_jX3 (r := 0) (by simp [rc_jn, z, w]) (br_t rfl (nm_r (nI_1 x) (h1 post f t hp))))⟩⟩,
          fun post g o hp => br_f h5 ⟨rc_vY hy, br_f zy ⟨rc_vY hw, br_f (fun q => w ((rc_ry hw).symm.trans q)) (nm_r (nI_1 x) (h2 post g o hp))⟩⟩⟩
theorem rc_sam {m t a : Nat → Int32} (h : rc_R m t a) {s q : Nat} (hs : s < 3) (hq : q < 3) :
    ∀ d x : Nat, x + d = 512 → ∀ c : Nat, c + d ≤ 512 → ∃ r : Nat, c ≤ r ∧ r ≤ 512 ∧
      (∀ (post : Int32 → Prop) (f : Int32) (t : Nat → Int32), post (nI r) → wX_countJoined_20 post 2 (nI (s * 512)) (nI (q * 512)) f m t (d + 1) (nI c) (nI x)) ∧
      (∀ (post : Int32 → Prop) (g : Int32) (o : Nat → Int32), post (if r = c then 1 else 0) → wY_same_20 post (nI s) (nI q) g a o (d + 1) (nI x)) := by
  intro d
  induction d with
  | zero =>
    intro x hx c hc
    have hg : (512 : Int32) ≤ nI x := rc_ge (by omega) (by omega)
    exact ⟨c, by omega, by omega, fun _ _ _ hp => br_t hg hp, fun _ _ _ hp => br_t hg (by rwa [if_pos rfl] at hp)⟩
  | succ d ih =>
    intro x hx c hc
    have hi : s * 512 + x < 1536 := by omega
    have hy : s * 512 + x < 2048 := by omega
    have hj : q * 512 + x < 1536 := by omega
    have hw : q * 512 + x < 2048 := by omega
    have h5 : ¬ (512 : Int32) ≤ nI x := rc_lt (by omega)
    by_cases z : a (s * 512 + x) = a (q * 512 + x)
    · obtain ⟨r, hr1, hr2, h1, h2⟩ := ih (x + 1) (by omega) c (by omega)
      exact ⟨r, hr1, hr2, fun post f t hp => br_f h5 ⟨rc_vX hi, nm_r (rc_rd h hi) ⟨rc_vX hj, nm_r (rc_rd h hj) (rc_jX2 (r := 0) (by simp [rc_jn, z]) (br_t rfl (nm_r (nI_1 x) (h1 post f t hp))))⟩⟩,
        fun post g o hp => br_f h5 ⟨rc_vY hy, rc_vY hw, br_t ((rc_ry hy).trans (z.trans (rc_ry hw).symm)) (nm_r (nI_1 x) (h2 post g o hp))⟩⟩
    · obtain ⟨r, hr1, hr2, h1, h2⟩ := ih (x + 1) (by omega) (c + 1) (by omega)
      exact ⟨r, by omega, hr2, fun post f t hp => br_f h5 ⟨rc_vX hi, nm_r (rc_rd h hi) ⟨rc_vX hj, nm_r (rc_rd h hj) (rc_jX2 (r := 1) (by simp [rc_jn, z]) (br_f rc_10 (nm_r (nI_1 c) (nm_r (nI_1 x) (h1 post f t hp)))))⟩⟩,
        fun post g o hp => br_f h5 ⟨rc_vY hy, rc_vY hw, br_f (fun e => z ((rc_ry hy).symm.trans (e.trans (rc_ry hw)))) (by rwa [if_neg (by omega)] at hp)⟩⟩
end
