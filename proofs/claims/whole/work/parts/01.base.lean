/-! pasted from the kit's pure rows: stores and numbers -/
theorem pk_us {f : Nat → Int32} {k : Nat} {x : Int32} : upd f k x k = x := if_pos rfl
theorem pk_un {f : Nat → Int32} {k j : Nat} {x : Int32} (h : j ≠ k) : upd f k x j = f j := if_neg h
theorem pk_sub {a b : Nat} (h : b ≤ a) : nI a - nI b = nI (a - b) := by
  obtain ⟨c, rfl⟩ : ∃ c, a = c + b := ⟨a - b, by omega⟩
  rw [← nI_add, Int32.add_sub_cancel, Nat.add_sub_cancel]
theorem pk_m1 (n : Nat) : nI (n + 1) + (-1) = nI n := by
  rw [← nI_1, Int32.add_assoc, show (1 : Int32) + (-1) = 0 from rfl, Int32.add_zero]
theorem pk_mul (a b : Nat) : nI a * nI b = nI (a * b) := (Int32.ofNat_mul a b).symm
theorem pk_div {a d : Nat} (ha : a < 2 ^ 31) (h0 : 0 < d) (hd : d < 2 ^ 31) : nI a / nI d = nI (a / d) := by
  apply Int32.toInt_inj.mp
  rw [lg_idiv_nonneg (by rw [nI_toInt ha]; omega) (by rw [nI_toInt hd]; omega), nI_toInt ha, nI_toInt hd, nI_toInt (Nat.lt_of_le_of_lt (Nat.div_le_self a d) ha)]
  first | rfl | exact (Int.natCast_ediv _ _).symm
theorem pk_rem {a d : Nat} (ha : a < 2 ^ 31) (h0 : 0 < d) (hd : d < 2 ^ 31) : nI a - nI a / nI d * nI d = nI (a % d) := by
  rw [pk_div ha h0 hd, pk_mul, pk_sub (Nat.div_mul_le_self a d)]
  exact congrArg nI (by have := Nat.div_add_mod' a d; omega)
theorem pk_sub_toInt {a b : Nat} (ha : a < 2 ^ 30) (hb : b < 2 ^ 30) : (nI a - nI b).toInt = (a : Int) - b := by
  rw [Int32.toInt_sub, nI_toInt (by omega), nI_toInt (by omega)]
  exact Int.bmod_eq_of_le (by omega) (by omega)
theorem pk_sneg {a b : Nat} (hb : b < 2 ^ 30) (h : a < b) : nI a - nI b < 0 := by
  rw [Int32.lt_iff_toInt_lt, pk_sub_toInt (by omega) hb, show (0 : Int32).toInt = 0 from by decide]
  omega
/-! the numbers of the claim -/
theorem rc_3 : nI 3 = 3 := by decide +kernel
theorem rc_256 : nI 256 = 256 := by decide +kernel
theorem rc_512 : nI 512 = 512 := by decide +kernel
theorem rc_511 : nI 511 = 511 := by decide +kernel
theorem rc_m1 : nI 0 + (-1) = -1 := by decide +kernel
theorem rc_L {a b : Nat} (h : a + b < 2 ^ 31) : (nI a + nI b).toNatClampNeg = a + b := by rw [nI_add, nI_clamp h]
/-- the component's base of a set -/
theorem rc_bX (s : Nat) : nI s * 512 = nI (s * 512) := by rw [← rc_512, pk_mul]
theorem rc_bY (s x : Nat) : 512 * nI s + nI x = nI (s * 512 + x) := by rw [← rc_512, pk_mul, nI_add, Nat.mul_comm]
theorem rc_b3 (x : Nat) : (512 : Int32) * 3 + nI x = nI (1536 + x) := by rw [← rc_3]; exact rc_bY 3 x
theorem rc_iX {B x : Nat} (h : B + x < 1536) : (nI B + nI x).toNatClampNeg = B + x := by rw [nI_add, nI_clamp (by omega)]
theorem rc_iY {s x : Nat} (h : s * 512 + x < 2048) : (512 * nI s + nI x).toNatClampNeg = s * 512 + x := by rw [rc_bY, nI_clamp (by omega)]
theorem rc_i3 {x : Nat} (h : x < 512) : ((512 : Int32) * 3 + nI x).toNatClampNeg = 1536 + x := by rw [rc_b3, nI_clamp (by omega)]
theorem rc_vX {B x : Nat} (h : B + x < 1536) : vp_in (nI B + nI x) 1536 := by rw [nI_add]; exact vp_in_nI h (by decide)
theorem rc_vY {s x : Nat} (h : s * 512 + x < 2048) : vp_in (512 * nI s + nI x) 2048 := by rw [rc_bY]; exact vp_in_nI h (by decide)
theorem rc_v3 {x : Nat} (h : x < 512) : vp_in ((512 : Int32) * 3 + nI x) 2048 := by rw [rc_b3]; exact vp_in_nI (by omega) (by decide)
theorem rc_lt {x : Nat} (h : x < 512) : ¬ (512 : Int32) ≤ nI x := by rw [← rc_512]; exact nI_ge h (by decide)
theorem rc_ge {x : Nat} (h : 512 ≤ x) (hx : x < 2 ^ 31) : (512 : Int32) ≤ nI x := by rw [← rc_512]; exact nI_le h hx
/-! the relation -/
def rc_01 (x : Int32) : Prop := x = 0 ∨ x = 1
theorem rc_n0 : vp_nar .boolean 0 = 0 := by decide +kernel
theorem rc_n1 : vp_nar .boolean 1 = 1 := by decide +kernel
theorem rc_nar {x : Int32} (h : rc_01 x) : vp_nar .boolean x = x := by
  rcases h with h | h
  · rw [h, rc_n0]
  · rw [h, rc_n1]
theorem rc_one {x : Int32} (h : rc_01 x) (z : ¬ x = 0) : x = 1 := h.resolve_left z
theorem rc_10 : ¬ (1 : Int32) = 0 := by decide
/-- the component's places and tape, the reference's places: the tape is its fourth set -/
def rc_R (m t a : Nat → Int32) : Prop := (∀ i, i < 1536 → m i = a i) ∧ (∀ i, i < 512 → t i = a (1536 + i)) ∧ (∀ i, i < 2048 → rc_01 (a i))
def i_Rel (_ : Nat) (u : SX) (v : SY) : Prop := u.1 = v.1 ∧ rc_R u.2.1 u.2.2 v.2.1
theorem i_up {k : Nat} {u : SX} {v : SY} (h : i_Rel k u v) : i_Rel (k + 4) u v := h
theorem i_vc0 : wpX_init (fun u => wpY_init (fun v => i_Rel 0 u v)) := ⟨rfl, fun _ _ => rfl, fun _ _ => rfl, fun _ _ => Or.inl rfl⟩
theorem rc_rd {m t a : Nat → Int32} (h : rc_R m t a) {B x : Nat} (hx : B + x < 1536) : m (nI B + nI x).toNatClampNeg = a (B + x) := by
  rw [rc_iX hx]; exact h.1 _ hx
theorem rc_ry {a : Nat → Int32} {s x : Nat} (hx : s * 512 + x < 2048) : a (512 * nI s + nI x).toNatClampNeg = a (s * 512 + x) := by
  rw [rc_iY hx]
theorem rc_R_upd {m t a : Nat → Int32} (h : rc_R m t a) {i : Nat} (hi : i < 1536) {w : Int32} (hw : rc_01 w) : rc_R (upd m i w) t (upd a i w) := by
  refine ⟨fun j hj => ?_, fun j hj => ?_, fun j hj => ?_⟩
  · by_cases e : j = i
    · rw [e, pk_us, pk_us]
    · rw [pk_un e, pk_un e]; exact h.1 j hj
  · rw [pk_un (by omega)]; exact h.2.1 j hj
  · by_cases e : j = i
    · rw [e, pk_us]; exact hw
    · rw [pk_un e]; exact h.2.2 j hj
theorem rc_R_updY {m t a : Nat → Int32} (h : rc_R m t a) {i : Nat} (hi : i < 1536) {w : Int32} (e0 : a i = w) : rc_R m t (upd a i w) := by
  have e : upd a i w = a := by
    funext j
    by_cases e : j = i
    · rw [e, pk_us, e0]
    · rw [pk_un e]
  rw [e]; exact h
theorem rc_R_updT {m t a : Nat → Int32} (h : rc_R m t a) {i : Nat} (hi : i < 512) {w : Int32} (hw : rc_01 w) : rc_R m (upd t i w) (upd a (1536 + i) w) := by
  refine ⟨fun j hj => ?_, fun j hj => ?_, fun j hj => ?_⟩
  · rw [pk_un (by omega)]; exact h.1 j hj
  · by_cases e : j = i
    · rw [e, pk_us, pk_us]
    · rw [pk_un e, pk_un (by omega)]; exact h.2.1 j hj
  · by_cases e : j = 1536 + i
    · rw [e, pk_us]; exact hw
    · rw [pk_un e]; exact h.2.2 j hj
/-! the refusals -/
theorem rc_set (p : Int32) :
    ((∀ post : Int32 → Prop, post 0 → wpX_isSet post p) ∧ (∀ (post : Int32 → Prop) (g : Int32) (a o : Nat → Int32), post 1 → wpY_badSet post (g, a, o) p)) ∨
    (∃ s : Nat, s < 3 ∧ p = nI s ∧ (∀ post : Int32 → Prop, post 1 → wpX_isSet post p) ∧ (∀ (post : Int32 → Prop) (g : Int32) (a o : Nat → Int32), post 0 → wpY_badSet post (g, a, o) p)) := by
  by_cases h0 : p < 0
  · exact Or.inl ⟨fun _ hp => br_t h0 hp, fun _ _ _ _ hp => br_t h0 hp⟩
  · obtain ⟨s, hs, rfl⟩ := nI_of h0
    by_cases h3 : s < 3
    · exact Or.inr ⟨s, h3, rfl, fun _ hp => br_f h0 (br_f (nI_ge (b := 3) h3 (by decide)) hp), fun _ _ _ _ hp => br_f h0 (br_t (nI_le (b := 2) (by omega) (by decide)) hp)⟩
    · exact Or.inl ⟨fun _ hp => br_f h0 (br_t (nI_le (a := 3) (by omega) hs) hp), fun _ _ _ _ hp => br_f h0 (br_f (nI_ge (a := 2) (by omega) hs) hp)⟩
theorem rc_num (p : Int32) :
    ((∀ post : Int32 → Prop, post 0 → wpX_isNumber post p) ∧ (∀ (post : Int32 → Prop) (g : Int32) (a o : Nat → Int32), post 1 → wpY_badNumber post (g, a, o) p)) ∨
    (∃ s : Nat, s < 512 ∧ p = nI s ∧ (∀ post : Int32 → Prop, post 1 → wpX_isNumber post p) ∧ (∀ (post : Int32 → Prop) (g : Int32) (a o : Nat → Int32), post 0 → wpY_badNumber post (g, a, o) p)) := by
  by_cases h0 : p < 0
  · exact Or.inl ⟨fun _ hp => br_t h0 hp, fun _ _ _ _ hp => br_t h0 hp⟩
  · obtain ⟨s, hs, rfl⟩ := nI_of h0
    by_cases h3 : s < 512
    · exact Or.inr ⟨s, h3, rfl, fun _ hp => br_f h0 (br_f (rc_lt h3) hp), fun _ _ _ _ hp => br_f h0 (br_t (by rw [← rc_511]; exact nI_le (by omega) (by decide)) hp)⟩
    · exact Or.inl ⟨fun _ hp => br_f h0 (br_t (rc_ge (by omega) hs) hp), fun _ _ _ _ hp => br_f h0 (br_f (by rw [← rc_511]; exact nI_ge (by omega) hs) hp)⟩
theorem rc_rng (p q : Int32) :
    ((∀ post : Int32 → Prop, post 0 → wpX_isRange post p q) ∧ (∀ (post : Int32 → Prop) (g : Int32) (a o : Nat → Int32), post 1 → wpY_badRange post (g, a, o) p q)) ∨
    (∃ x y : Nat, x ≤ y ∧ y < 512 ∧ p = nI x ∧ q = nI y ∧ (∀ post : Int32 → Prop, post 1 → wpX_isRange post p q) ∧ (∀ (post : Int32 → Prop) (g : Int32) (a o : Nat → Int32), post 0 → wpY_badRange post (g, a, o) p q)) := by
  by_cases h0 : p < 0
  · exact Or.inl ⟨fun _ hp => br_t h0 hp, fun _ _ _ _ hp => br_t h0 hp⟩
  · by_cases h1 : q < p
    · exact Or.inl ⟨fun _ hp => br_f h0 (br_t h1 hp), fun _ _ _ _ hp => br_f h0 (br_t h1 hp)⟩
    · obtain ⟨x, hx, rfl⟩ := nI_of h0
      have hq : ¬ q < 0 := fun z => h1 (Int32.lt_of_lt_of_le z (nI_pos' hx))
      obtain ⟨y, hy, rfl⟩ := nI_of hq
      have hxy : x ≤ y := by
        have := mt (nI_ltI hy hx).mpr h1
        omega
      by_cases h3 : y < 512
      · exact Or.inr ⟨x, y, hxy, h3, rfl, rfl, fun _ hp => br_f h0 (br_f h1 (br_f (rc_lt h3) hp)), fun _ _ _ _ hp => br_f h0 (br_f h1 (br_t (by rw [← rc_511]; exact nI_le (by omega) (by decide)) hp))⟩
      · exact Or.inl ⟨fun _ hp => br_f h0 (br_f h1 (br_t (rc_ge (by omega) hy) hp)), fun _ _ _ _ hp => br_f h0 (br_f h1 (br_f (by rw [← rc_511]; exact nI_ge (by omega) hy) hp))⟩
