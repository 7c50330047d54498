/-! shift: each side against one picture -/
def rc_up (a : Nat → Int32) (B d i : Nat) : Int32 := if B ≤ i ∧ i < B + 512 then (if B + d ≤ i then a (i - d) else 0) else a i
def rc_dn (a : Nat → Int32) (B d i : Nat) : Int32 := if B ≤ i ∧ i < B + 512 then (if i + d < B + 512 then a (i + d) else 0) else a i
theorem rc_upO {a : Nat → Int32} {B d i : Nat} (h : ¬ (B ≤ i ∧ i < B + 512)) : rc_up a B d i = a i := if_neg h
theorem rc_dnO {a : Nat → Int32} {B d i : Nat} (h : ¬ (B ≤ i ∧ i < B + 512)) : rc_dn a B d i = a i := if_neg h
theorem rc_upZ {a : Nat → Int32} {B d x : Nat} (hx : x < 512) (h : x < d) : rc_up a B d (B + x) = 0 := by
  unfold rc_up
  rw [if_pos (by omega), if_neg (by omega)]
theorem rc_upV {a : Nat → Int32} {B d x : Nat} (hx : x < 512) (h : d ≤ x) : rc_up a B d (B + x) = a (B + (x - d)) := by
  unfold rc_up
  rw [if_pos (by omega), if_pos (by omega)]
  exact congrArg a (by omega)
theorem rc_dnZ {a : Nat → Int32} {B d x : Nat} (hx : x < 512) (h : 512 ≤ x + d) : rc_dn a B d (B + x) = 0 := by
  unfold rc_dn
  rw [if_pos (by omega), if_neg (by omega)]
theorem rc_dnV {a : Nat → Int32} {B d x : Nat} (hx : x < 512) (h : x + d < 512) : rc_dn a B d (B + x) = a (B + (x + d)) := by
  unfold rc_dn
  rw [if_pos (by omega), if_pos (by omega)]
  exact congrArg a (by omega)
theorem rc_stU {a m : Nat → Int32} {B d x : Nat} (hI : ∀ i, i < 1536 → m i = if i < B + (x + 1) then a i else rc_up a B d i) {w : Int32} (hw : rc_up a B d (B + x) = w) :
    ∀ i, i < 1536 → upd m (B + x) w i = if i < B + x then a i else rc_up a B d i := by
  intro i hi
  by_cases e : i = B + x
  · rw [e, pk_us, if_neg (by omega), hw]
  · rw [pk_un e, hI i hi]
    by_cases l : i < B + x
    · rw [if_pos l, if_pos (by omega)]
    · rw [if_neg l, if_neg (by omega)]
theorem rc_stD {a m : Nat → Int32} {B d x : Nat} (hI : ∀ i, i < 1536 → m i = if i < B + x then rc_dn a B d i else a i) {w : Int32} (hw : rc_dn a B d (B + x) = w) :
    ∀ i, i < 1536 → upd m (B + x) w i = if i < B + (x + 1) then rc_dn a B d i else a i := by
  intro i hi
  by_cases e : i = B + x
  · rw [e, pk_us, if_pos (by omega), hw]
  · rw [pk_un e, hI i hi]
    by_cases l : i < B + x
    · rw [if_pos l, if_pos (by omega)]
    · rw [if_neg l, if_neg (by omega)]
theorem rc_mvU {a t : Nat → Int32} (h01 : ∀ i, i < 2048 → rc_01 (a i)) {s d : Nat} (hs : s < 3) (hd : 0 < d) (hd2 : d < 512) :
    ∀ k : Nat, k ≤ 512 → ∀ m : Nat → Int32, (∀ i, i < 1536 → m i = if i < s * 512 + k then a i else rc_up a (s * 512) d i) →
      ∃ m' : Nat → Int32, (∀ i, i < 1536 → m' i = rc_up a (s * 512) d i) ∧
        (∀ (post : SX → Prop) (f : Int32), post (f, m', t) → wX_moveUp_11 post (nI d) (nI (s * 512)) f (k + 1) (nI k + (-1)) m t) := by
  intro k
  induction k with
  | zero =>
    intro _ m hI
    refine ⟨m, fun i hi => ?_, fun _ _ hp => br_t rc_neg hp⟩
    rw [hI i hi]
    by_cases l : i < s * 512 + 0
    · rw [if_pos l, rc_upO (by omega)]
    · rw [if_neg l]
  | succ x ih =>
    intro hx m hI
    have hi : s * 512 + x < 1536 := by omega
    have h5 : ¬ nI x < 0 := nI_pos (by omega)
    rw [pk_m1]
    by_cases l : x < d
    · obtain ⟨m', hm, h1⟩ := ih (by omega) (upd m (s * 512 + x) 0) (rc_stU hI (rc_upZ (by omega) l))
      exact ⟨m', hm, fun post f hp => br_f h5 (nm_e (br_t (pk_sneg (by omega) l) ⟨rc_vX hi, nm_r (rc_uX hi rc_b0) (nm_e (h1 post f hp))⟩))⟩
    · have hj : s * 512 + (x - d) < 1536 := by omega
      have er : m (nI (s * 512) + nI (x - d)).toNatClampNeg = a (s * 512 + (x - d)) := by
        rw [rc_iX hj, hI _ hj, if_pos (by omega)]
      have ev : rc_up a (s * 512) d (s * 512 + x) = a (s * 512 + (x - d)) := rc_upV (by omega) (by omega)
      by_cases z : a (s * 512 + (x - d)) = 0
      · obtain ⟨m', hm, h1⟩ := ih (by omega) (upd m (s * 512 + x) 0) (rc_stU hI (ev.trans z))
        exact ⟨m', hm, fun post f hp => br_f h5 (nm_r (pk_sub (by omega)) (br_f (nI_pos (by omega)) ⟨rc_vX hj, br_t (er.trans z) ⟨rc_vX hi, nm_r (rc_uX hi rc_b0) (nm_e (h1 post f hp))⟩⟩))⟩
      · obtain ⟨m', hm, h1⟩ := ih (by omega) (upd m (s * 512 + x) 1) (rc_stU hI (ev.trans (rc_one (h01 _ (by omega)) z)))
        exact ⟨m', hm, fun post f hp => br_f h5 (nm_r (pk_sub (by omega)) (br_f (nI_pos (by omega)) ⟨rc_vX hj, br_f (fun q => z (er.symm.trans q)) ⟨rc_vX hi, nm_r (rc_uX hi rc_b1) (nm_e (h1 post f hp))⟩⟩))⟩
theorem rc_mvD {a t : Nat → Int32} (h01 : ∀ i, i < 2048 → rc_01 (a i)) {s d : Nat} (hs : s < 3) (hd2 : d < 512) :
    ∀ n x : Nat, x + n = 512 → ∀ m : Nat → Int32, (∀ i, i < 1536 → m i = if i < s * 512 + x then rc_dn a (s * 512) d i else a i) →
      ∃ m' : Nat → Int32, (∀ i, i < 1536 → m' i = rc_dn a (s * 512) d i) ∧
        (∀ (post : SX → Prop) (f : Int32), post (f, m', t) → wX_moveDown_9 post (nI d) (nI (s * 512)) f (n + 1) (nI x) m t) := by
  intro n
  induction n with
  | zero =>
    intro x hx m hI
    have hg : (512 : Int32) ≤ nI x := rc_ge (by omega) (by omega)
    refine ⟨m, fun i hi => ?_, fun _ _ hp => br_t hg hp⟩
    rw [hI i hi]
    by_cases l : i < s * 512 + x
    · rw [if_pos l]
    · rw [if_neg l, rc_dnO (by omega)]
  | succ n ih =>
    intro x hx m hI
    have hi : s * 512 + x < 1536 := by omega
    have h5 : ¬ (512 : Int32) ≤ nI x := rc_lt (by omega)
    by_cases l : 512 ≤ x + d
    · obtain ⟨m', hm, h1⟩ := ih (x + 1) (by omega) (upd m (s * 512 + x) 0) (rc_stD hI (rc_dnZ (by omega) l))
      exact ⟨m', hm, fun post f hp => br_f h5 (nm_r (nI_add x d) (br_t (rc_ge l (by omega)) ⟨rc_vX hi, nm_r (rc_uX hi rc_b0) (nm_r (nI_1 x) (h1 post f hp))⟩))⟩
    · have hj : s * 512 + (x + d) < 1536 := by omega
      have er : m (nI (s * 512) + nI (x + d)).toNatClampNeg = a (s * 512 + (x + d)) := by
        rw [rc_iX hj, hI _ hj, if_neg (by omega)]
      have ev : rc_dn a (s * 512) d (s * 512 + x) = a (s * 512 + (x + d)) := rc_dnV (by omega) (by omega)
      by_cases z : a (s * 512 + (x + d)) = 0
      · obtain ⟨m', hm, h1⟩ := ih (x + 1) (by omega) (upd m (s * 512 + x) 0) (rc_stD hI (ev.trans z))
        exact ⟨m', hm, fun post f hp => br_f h5 (nm_r (nI_add x d) (br_f (rc_lt (by omega)) ⟨rc_vX hj, br_t (er.trans z) ⟨rc_vX hi, nm_r (rc_uX hi rc_b0) (nm_r (nI_1 x) (h1 post f hp))⟩⟩))⟩
      · obtain ⟨m', hm, h1⟩ := ih (x + 1) (by omega) (upd m (s * 512 + x) 1) (rc_stD hI (ev.trans (rc_one (h01 _ (by omega)) z)))
        exact ⟨m', hm, fun post f hp => br_f h5 (nm_r (nI_add x d) (br_f (rc_lt (by omega)) ⟨rc_vX hj, br_f (fun q => z (er.symm.trans q)) ⟨rc_vX hi, nm_r (rc_uX hi rc_b1) (nm_r (nI_1 x) (h1 post f hp))⟩⟩))⟩
/-- the reference copies the set to old -/
theorem rc_shO {a : Nat → Int32} (h01 : ∀ i, i < 2048 → rc_01 (a i)) {s : Nat} (hs : s < 3) (p : Int32) :
    ∀ n x : Nat, x + n = 512 → ∀ o : Nat → Int32, (∀ y, y < x → o y = a (s * 512 + y)) → ∃ o' : Nat → Int32, (∀ y, y < 512 → o' y = a (s * 512 + y)) ∧
      (∀ (post : Int32 → SY → Prop) (g : Int32), (∃ n62 : Nat, wY_shift_62 post (nI s) p g n62 0 a o') → wY_shift_29 post (nI s) p g (n + 1) (nI x) a o) := by
  intro n
  induction n with
  | zero =>
    intro x hx o hI
    have hg : (512 : Int32) ≤ nI x := rc_ge (by omega) (by omega)
    exact ⟨o, fun y hy => hI y (by omega), fun _ _ hp => br_t hg hp⟩
  | succ n ih =>
    intro x hx o hI
    have hy : s * 512 + x < 2048 := by omega
    have h5 : ¬ (512 : Int32) ≤ nI x := rc_lt (by omega)
    obtain ⟨o', ho, h1⟩ := ih (x + 1) (by omega) (upd o x (a (s * 512 + x))) (fun y hy => by
      by_cases e : y = x
      · rw [e, pk_us]
      · rw [pk_un e]; exact hI y (by omega))
    exact ⟨o', ho, fun post g hp => br_f h5 ⟨rc_vY hy, vp_in_nI (by omega) (by decide), nm_r (by rw [rc_ry (a := a) hy, rc_nar (h01 _ hy), nI_clamp (by omega)]) (nm_r (nI_1 x) (h1 post g hp))⟩⟩
theorem rc_stI {a a0 T : Nat → Int32} {B x : Nat} (hI : ∀ i, i < 2048 → a i = if B ≤ i ∧ i < B + x then T i else a0 i) {w : Int32} (hw : T (B + x) = w) :
    ∀ i, i < 2048 → upd a (B + x) w i = if B ≤ i ∧ i < B + (x + 1) then T i else a0 i := by
  intro i hi
  by_cases e : i = B + x
  · rw [e, pk_us, if_pos (by omega), hw]
  · rw [pk_un e, hI i hi]
    by_cases l : B ≤ i ∧ i < B + x
    · rw [if_pos l, if_pos (by omega)]
    · rw [if_neg l, if_neg (by omega)]
/-- and writes it back, shifted -/
theorem rc_shI {o a0 T : Nat → Int32} {s : Nat} (hs : s < 3) {p : Int32}
    (hT : ∀ x, x < 512 → (nI x - p < 0 ∧ T (s * 512 + x) = 0) ∨ (¬ nI x - p < 0 ∧ 512 ≤ nI x - p ∧ T (s * 512 + x) = 0) ∨ (∃ y, y < 512 ∧ nI x - p = nI y ∧ T (s * 512 + x) = o y ∧ rc_01 (o y))) :
    ∀ n x : Nat, x + n = 512 → ∀ a : Nat → Int32, (∀ i, i < 2048 → a i = if s * 512 ≤ i ∧ i < s * 512 + x then T i else a0 i) →
      ∃ a' : Nat → Int32, (∀ i, i < 2048 → a' i = if s * 512 ≤ i ∧ i < s * 512 + 512 then T i else a0 i) ∧
        (∀ (post : Int32 → SY → Prop) (g : Int32), wpY_many (fun r => post r (g, a', o)) (g, a', o) (nI s) → wY_shift_62 post (nI s) p g (n + 1) (nI x) a o) := by
  intro n
  induction n with
  | zero =>
    intro x hx a hI
    have hx : x = 512 := by omega
    subst hx
    have hg : (512 : Int32) ≤ nI 512 := rc_ge (by omega) (by omega)
    exact ⟨a, hI, fun _ _ hp => br_t hg hp⟩
  | succ n ih =>
    intro x hx a hI
    have hy : s * 512 + x < 2048 := by omega
    have h5 : ¬ (512 : Int32) ≤ nI x := rc_lt (by omega)
    rcases hT x (by omega) with ⟨c1, e⟩ | ⟨c1, c2, e⟩ | ⟨y, hy5, c1, e, o01⟩
    · obtain ⟨a', ha, h1⟩ := ih (x + 1) (by omega) (upd a (s * 512 + x) 0) (rc_stI hI e)
      exact ⟨a', ha, fun post g hp => br_f h5 (nm_e (br_t c1 ⟨rc_vY hy, nm_r (rc_uY hy rc_b0) (nm_r (nI_1 x) (h1 post g hp))⟩))⟩
    · obtain ⟨a', ha, h1⟩ := ih (x + 1) (by omega) (upd a (s * 512 + x) 0) (rc_stI hI e)
      exact ⟨a', ha, fun post g hp => br_f h5 (nm_e (br_f c1 (br_t c2 ⟨rc_vY hy, nm_r (rc_uY hy rc_b0) (nm_r (nI_1 x) (h1 post g hp))⟩)))⟩
    · have er : o (nI y).toNatClampNeg = o y := by rw [nI_clamp (by omega)]
      by_cases z : o y = 0
      · obtain ⟨a', ha, h1⟩ := ih (x + 1) (by omega) (upd a (s * 512 + x) 0) (rc_stI hI (e.trans z))
        exact ⟨a', ha, fun post g hp => br_f h5 (nm_r c1 (br_f (nI_pos (by omega)) (br_f (rc_lt hy5) ⟨vp_in_nI hy5 (by decide), br_t (er.trans z) ⟨rc_vY hy, nm_r (rc_uY hy rc_b0) (nm_r (nI_1 x) (h1 post g hp))⟩⟩)))⟩
      · obtain ⟨a', ha, h1⟩ := ih (x + 1) (by omega) (upd a (s * 512 + x) 1) (rc_stI hI (e.trans (rc_one o01 z)))
        exact ⟨a', ha, fun post g hp => br_f h5 (nm_r c1 (br_f (nI_pos (by omega)) (br_f (rc_lt hy5) ⟨vp_in_nI hy5 (by decide), br_f (fun q => z (er.symm.trans q)) ⟨rc_vY hy, nm_r (rc_uY hy rc_b1) (nm_r (nI_1 x) (h1 post g hp))⟩⟩)))⟩
/-- both pictures are one: the states are related again -/
theorem rc_shR {m t a m' a' T : Nat → Int32} (h : rc_R m t a) {s : Nat} (hs : s < 3) (hO : ∀ i, ¬ (s * 512 ≤ i ∧ i < s * 512 + 512) → T i = a i) (hT : ∀ x, x < 512 → rc_01 (T (s * 512 + x)))
    (hm : ∀ i, i < 1536 → m' i = T i) (ha : ∀ i, i < 2048 → a' i = if s * 512 ≤ i ∧ i < s * 512 + 512 then T i else a i) : rc_R m' t a' := by
  have ha2 : ∀ i, i < 2048 → a' i = T i := fun i hi => by
    rw [ha i hi]
    by_cases l : s * 512 ≤ i ∧ i < s * 512 + 512
    · rw [if_pos l]
    · rw [if_neg l, hO i l]
  refine ⟨fun i hi => ?_, fun i hi => ?_, fun i hi => ?_⟩
  · rw [hm i hi, ha2 i (by omega)]
  · rw [ha2 _ (by omega), hO _ (by omega)]; exact h.2.1 i hi
  · rw [ha2 i hi]
    by_cases l : s * 512 ≤ i ∧ i < s * 512 + 512
    · have := hT (i - s * 512) (by omega)
      rwa [show s * 512 + (i - s * 512) = i from by omega] at this
    · rw [hO i l]; exact h.2.2 i hi
