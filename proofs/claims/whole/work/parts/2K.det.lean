/-! SIZE: the minors, expanded row by row and laid out term by term -/
def exq (row : Nat → Int) (mask : Nat) (g : Nat → Int) : Nat → Int
  | 0 => 0
  | d + 1 => if mask.testBit d then row d * g (mask - 2 ^ d) - exq row mask g d else exq row mask g d
def Ex (a : Nat → Nat → Int) : Nat → Nat → Int
  | 0, _ => 1
  | r + 1, mask => exq (a r) mask (Ex a r) 5
/-- the sign of column c in a mask, columns below d counted -/
def sgb (mask c : Nat) : Nat → Int
  | 0 => 0
  | d + 1 => if c = d then (if mask.testBit d then 1 else 0) else if mask.testBit d then - sgb mask c d else sgb mask c d
theorem exq_sum (row : Nat → Int) (mask : Nat) (g : Nat → Int) : ∀ d, exq row mask g d = sm (fun c => sgb mask c d * (row c * g (mask - 2 ^ c))) d := by
  intro d
  induction d with
  | zero => rfl
  | succ d ih =>
    rw [exq, sm, ih]
    have e : ∀ c, c < d → sgb mask c (d + 1) = if mask.testBit d then - sgb mask c d else sgb mask c d := fun c hc => by
      rw [sgb, if_neg (by omega)]
    have e2 : sgb mask d (d + 1) = if mask.testBit d then 1 else 0 := by rw [sgb, if_pos rfl]
    by_cases w : mask.testBit d = true
    · rw [if_pos w, e2, if_pos w, Int.one_mul]
      have e3 : sm (fun c => sgb mask c (d + 1) * (row c * g (mask - 2 ^ c))) d = - sm (fun c => sgb mask c d * (row c * g (mask - 2 ^ c))) d := by
        rw [sm_congr d (g := fun c => - (sgb mask c d * (row c * g (mask - 2 ^ c)))) (fun c hc => by rw [e c hc, if_pos w, Int.neg_mul])]
        exact sm_neg _ d
      rw [e3]
      omega
    · rw [if_neg w, e2, if_neg w, Int.zero_mul, Int.add_zero]
      exact sm_congr d (fun c hc => by rw [e c hc, if_neg w])
where
  sm_neg (f : Nat → Int) : ∀ d, sm (fun c => - f c) d = - sm f d := by
    intro d
    induction d with
    | zero => rfl
    | succ d ih => rw [sm, sm, ih]; omega
theorem exq_top {row : Nat → Int} {mask m : Nat} {g : Nat → Int} (hm : mask < 2 ^ m) : ∀ d, exq row mask g (m + d) = exq row mask g m := by
  intro d
  induction d with
  | zero => rfl
  | succ d ih =>
    rw [← Nat.add_assoc, exq, if_neg, ih]
    rw [Nat.testBit_lt_two_pow (Nat.lt_of_lt_of_le hm (Nat.pow_le_pow_right (by decide) (by omega)))]
    decide
def dg (m u : Nat) : Nat → Nat := fun i => u / m ^ i % m
def pd (a : Nat → Nat → Int) (d : Nat → Nat) : Nat → Int
  | 0 => 1
  | r + 1 => pd a d r * a r (d r)
def wSg (m : Nat) : Nat → Nat → (Nat → Nat) → Int
  | 0, _, _ => 1
  | r + 1, mask, d => sgb mask (d r) m * wSg m r (mask - 2 ^ (d r)) d
theorem wSg_congr {m : Nat} {d d' : Nat → Nat} : ∀ r mask, (∀ i, i < r → d i = d' i) → wSg m r mask d = wSg m r mask d' := by
  intro r
  induction r with
  | zero => intro _ _; rfl
  | succ r ih => intro mask h; rw [wSg, wSg, h r (by omega), ih _ (fun i hi => h i (by omega))]
theorem pd_congr {a : Nat → Nat → Int} {d d' : Nat → Nat} : ∀ r, (∀ i, i < r → d i = d' i) → pd a d r = pd a d' r := by
  intro r
  induction r with
  | zero => intro _; rfl
  | succ r ih => intro h; rw [pd, pd, h r (by omega), ih (fun i hi => h i (by omega))]
theorem sm_mul (k : Int) (f : Nat → Int) : ∀ n, sm (fun u => k * f u) n = k * sm f n := by
  intro n
  induction n with
  | zero => rw [sm, sm, Int.mul_zero]
  | succ n ih => rw [sm, sm, ih, Int.mul_add]
theorem sm_app (f : Nat → Int) (n : Nat) : ∀ k, sm f (n + k) = sm f n + sm (fun u => f (n + u)) k := by
  intro k
  induction k with
  | zero => rw [Nat.add_zero, sm, Int.add_zero]
  | succ k ih => rw [← Nat.add_assoc, sm, sm, ih, Int.add_assoc]
theorem sm_two (f : Nat → Int) (k : Nat) : ∀ m, sm (fun c => sm (fun u => f (c * k + u)) k) m = sm f (m * k) := by
  intro m
  induction m with
  | zero => rw [Nat.zero_mul]; rfl
  | succ m ih => rw [sm, ih, Nat.add_mul, Nat.one_mul, sm_app]
theorem dg_low {m r c u i : Nat} (hi : i < r) (hm : 0 < m) : dg m (c * m ^ r + u) i = dg m u i := by
  unfold dg
  have e : c * m ^ r = m ^ i * (c * m ^ (r - 1 - i) * m) := by
    rw [show r = i + (r - 1 - i) + 1 by omega, Nat.pow_succ, Nat.pow_add, show i + (r - 1 - i) + 1 - 1 - i = r - 1 - i by omega]
    simp only [Nat.mul_assoc, Nat.mul_comm, Nat.mul_left_comm]
  rw [e, Nat.mul_add_div (Nat.pow_pos hm), Nat.mul_comm (c * m ^ (r - 1 - i)), Nat.mul_add_mod]
theorem dg_top {m r c u : Nat} (hu : u < m ^ r) (hc : c < m) : dg m (c * m ^ r + u) r = c := by
  unfold dg
  rw [Nat.mul_comm, Nat.mul_add_div (by omega), Nat.div_eq_of_lt hu, Nat.add_zero, Nat.mod_eq_of_lt hc]
theorem sgb_no {m mask c : Nat} : ∀ d, c < d → mask.testBit c = false → sgb mask c d = 0 := by
  intro d
  induction d with
  | zero => intro h; omega
  | succ d ih =>
    intro h hb
    rw [sgb]
    by_cases e : c = d
    · rw [if_pos e, ← e, hb]; rfl
    · rw [if_neg e, ih (by omega) hb]
      by_cases w : mask.testBit d = true
      · rw [if_pos w]; rfl
      · rw [if_neg w]
theorem Ex_sum (a : Nat → Nat → Int) {m : Nat} (h1 : 1 ≤ m) (h5 : m ≤ 5) : ∀ r mask, mask < 2 ^ m → Ex a r mask = sm (fun u => wSg m r mask (dg m u) * pd a (dg m u) r) (m ^ r) := by
  intro r
  induction r with
  | zero =>
    intro mask _
    show (1 : Int) = sm _ (m ^ 0)
    rw [Nat.pow_zero, sm, sm]
    rfl
  | succ r ih =>
    intro mask hmask
    rw [Ex]
    have e5 : exq (a r) mask (Ex a r) 5 = exq (a r) mask (Ex a r) m := by
      have := exq_top (row := a r) (g := Ex a r) hmask (5 - m)
      rw [show m + (5 - m) = 5 by omega] at this
      exact this
    rw [e5, exq_sum, Nat.pow_succ', ← sm_two]
    refine sm_congr m (fun c hc => ?_)
    by_cases w : mask.testBit c = true
    · rw [ih (mask - 2 ^ c) (Nat.lt_of_le_of_lt (Nat.sub_le _ _) hmask), ← sm_mul, ← sm_mul]
      refine sm_congr _ (fun u hu => ?_)
      have t := dg_top hu hc
      have l : ∀ i, i < r → dg m (c * m ^ r + u) i = dg m u i := fun i hi => dg_low hi (by omega)
      show _ = wSg m (r + 1) mask (dg m (c * m ^ r + u)) * pd a (dg m (c * m ^ r + u)) (r + 1)
      rw [wSg, pd, t, wSg_congr r _ l, pd_congr r l]
      simp only [Int.mul_assoc, Int.mul_comm, Int.mul_left_comm]
    · have w : mask.testBit c = false := by cases q : mask.testBit c <;> simp_all
      have z := sgb_no (m := m) (mask := mask) m hc w
      rw [z, Int.zero_mul]
      have e0 : sm (fun u => wSg m (r + 1) mask (dg m (c * m ^ r + u)) * pd a (dg m (c * m ^ r + u)) (r + 1)) (m ^ r) = sm (fun u => (0 : Int) * 0) (m ^ r) := by
        refine sm_congr _ (fun u hu => ?_)
        rw [wSg, dg_top hu hc, z, Int.zero_mul, Int.zero_mul, Int.zero_mul]
      rw [e0, sm_mul, Int.zero_mul]
/-- the sign as the reference lays it -/
def cp (x y : Nat) : Int := if x = y then 0 else if x ≤ y then 1 else -1
def ps (d : Nat → Nat) (j : Nat) : Nat → Int
  | 0 => 1
  | k + 1 => ps d j k * cp (d k) (d j)
def sgD (d : Nat → Nat) : Nat → Int
  | 0 => 1
  | j + 1 => sgD d j * ps d j j
theorem sg1 : ∀ u, u < 1 → wSg 1 1 (2 ^ 1 - 1) (dg 1 u) = sgD (dg 1 u) 1 := by decide +kernel
theorem sg2 : ∀ u, u < 4 → wSg 2 2 (2 ^ 2 - 1) (dg 2 u) = sgD (dg 2 u) 2 := by decide +kernel
theorem sg3 : ∀ u, u < 27 → wSg 3 3 (2 ^ 3 - 1) (dg 3 u) = sgD (dg 3 u) 3 := by decide +kernel
theorem sg4 : ∀ u, u < 256 → wSg 4 4 (2 ^ 4 - 1) (dg 4 u) = sgD (dg 4 u) 4 := by decide +kernel
theorem sg5 : ∀ x, x < 25 → ∀ y, y < 125 → wSg 5 5 (2 ^ 5 - 1) (dg 5 (x * 125 + y)) = sgD (dg 5 (x * 125 + y)) 5 := by decide +kernel
theorem sg_all {m u : Nat} (h1 : 1 ≤ m) (h5 : m ≤ 5) (hu : u < m ^ m) : wSg m m (2 ^ m - 1) (dg m u) = sgD (dg m u) m := by
  rcases (show m = 1 ∨ m = 2 ∨ m = 3 ∨ m = 4 ∨ m = 5 by omega) with rfl | rfl | rfl | rfl | rfl
  · exact sg1 u hu
  · exact sg2 u hu
  · exact sg3 u hu
  · exact sg4 u hu
  · have hu : u < 3125 := hu
    have := sg5 (u / 125) (by omega) (u % 125) (by omega)
    rw [show u / 125 * 125 + u % 125 = u by omega] at this
    exact this
theorem laplace (a : Nat → Nat → Int) {m : Nat} (h1 : 1 ≤ m) (h5 : m ≤ 5) : Ex a m (2 ^ m - 1) = sm (fun u => sgD (dg m u) m * pd a (dg m u) m) (m ^ m) := by
  have hp : 0 < 2 ^ m := Nat.pow_pos (by decide)
  rw [Ex_sum a h1 h5 m _ (by omega)]
  exact sm_congr _ (fun u hu => by rw [sg_all h1 h5 hu])
/-! bounds -/
def cnb (mask : Nat) : Nat → Nat
  | 0 => 0
  | d + 1 => if mask.testBit d then cnb mask d + 1 else cnb mask d
def pcn (mask : Nat) : Nat := cnb mask 5
theorem iab {x y A B : Int} (h1 : -A ≤ x ∧ x ≤ A) (h2 : -B ≤ y ∧ y ≤ B) (hA : 0 ≤ A) (hB : 0 ≤ B) : -(A * B) ≤ x * y ∧ x * y ≤ A * B := by
  have h : (x * y).natAbs ≤ (A * B).natAbs := by
    rw [Int.natAbs_mul, Int.natAbs_mul]
    exact Nat.mul_le_mul (by omega) (by omega)
  have h3 : 0 ≤ A * B := Int.mul_nonneg hA hB
  omega
theorem exq_le {row : Nat → Int} {mask : Nat} {g : Nat → Int} {G : Int} (hG : 0 ≤ G) (hr : ∀ c, c < 5 → -2251 ≤ row c ∧ row c ≤ 2251) : ∀ d, d ≤ 5 → (∀ c, c < d → mask.testBit c = true → -G ≤ g (mask - 2 ^ c) ∧ g (mask - 2 ^ c) ≤ G) → -(cnb mask d * (2251 * G)) ≤ exq row mask g d ∧ exq row mask g d ≤ cnb mask d * (2251 * G) := by
  intro d
  induction d with
  | zero => intro _ _; rw [exq, cnb]; simp
  | succ d ih =>
    intro h5 hg
    have i1 := ih (by omega) (fun c hc => hg c (by omega))
    rw [exq, cnb]
    by_cases w : mask.testBit d = true
    · rw [if_pos w, if_pos w]
      have i2 := iab (hr d (by omega)) (hg d (by omega) w) (by decide) hG
      rw [Int.natCast_add, Int.add_mul]
      omega
    · rw [if_neg w, if_neg w]; exact i1
def facI : Nat → Int
  | 0 => 1
  | r + 1 => (r + 1 : Nat) * (2251 * facI r)
theorem fac_nn : ∀ r, 0 ≤ facI r := by
  intro r
  induction r with
  | zero => decide
  | succ r ih => exact Int.mul_nonneg (Int.natCast_nonneg _) (Int.mul_nonneg (by decide) ih)
theorem pcn_sub : ∀ mask, mask < 32 → ∀ c, c < 5 → mask.testBit c = true → pcn (mask - 2 ^ c) + 1 = pcn mask ∧ mask - 2 ^ c < mask := by decide +kernel
theorem Ex_le {a : Nat → Nat → Int} (ha : ∀ i c, i < 5 → c < 5 → -2251 ≤ a i c ∧ a i c ≤ 2251) : ∀ r mask, r ≤ 5 → mask < 32 → pcn mask = r → -(facI r) ≤ Ex a r mask ∧ Ex a r mask ≤ facI r := by
  intro r
  induction r with
  | zero => intro _ _ _ _; exact ⟨show -(1 : Int) ≤ 1 by decide, show (1 : Int) ≤ 1 by decide⟩
  | succ r ih =>
    intro mask h5 hm hp
    rw [Ex, facI]
    have := exq_le (row := a r) (mask := mask) (g := Ex a r) (G := facI r) (fac_nn r) (fun c hc => ha r c (by omega) hc) 5 (Nat.le_refl _) (fun c hc hb => by
      have q := pcn_sub mask hm c hc hb
      exact ih (mask - 2 ^ c) (by omega) (by omega) (by omega))
    rw [show cnb mask 5 = r + 1 from hp] at this
    exact this
theorem fac_lt : ∀ r, r ≤ 5 → facI r < 2 ^ 63 := by
  intro r h
  rcases (show r = 0 ∨ r = 1 ∨ r = 2 ∨ r = 3 ∨ r = 4 ∨ r = 5 by omega) with rfl | rfl | rfl | rfl | rfl | rfl <;> decide
theorem pcn_full : ∀ m, m ≤ 5 → pcn (2 ^ m - 1) = m := by decide +kernel
