/-! TOGETHER -/
theorem exitLoop {σ : Type} (L : Nat → Nat → σ → Option (Nat × σ)) (r : Nat) (Inv : Nat → σ → Prop) (Bad : σ → Prop) (ok : Nat → Prop) (hx : ∀ n s, Inv r s → L (n + 1) r s = some (1, s))
    (hs : ∀ n j s, j < r → Inv j s → (∃ s', L (n + 1) j s = L n (j + 1) s' ∧ Inv (j + 1) s' ∧ ok j) ∨ (∃ s', L (n + 1) j s = some (0, s') ∧ Bad s' ∧ ¬ ok j)) :
    ∀ d j n s, j + d = r → d < n → Inv j s → (∃ s', L n j s = some (1, s') ∧ Inv r s' ∧ ∀ q, j ≤ q → q < r → ok q) ∨ (∃ s', L n j s = some (0, s') ∧ Bad s' ∧ ∃ q, q < r ∧ ¬ ok q) := by
  intro d
  induction d with
  | zero =>
    intro j n s hj hn h
    obtain ⟨m, rfl⟩ : ∃ m, n = m + 1 := ⟨n - 1, by omega⟩
    have e : j = r := by omega
    subst e
    exact Or.inl ⟨s, hx m s h, h, fun q h1 h2 => by omega⟩
  | succ d ih =>
    intro j n s hj hn h
    obtain ⟨m, rfl⟩ : ∃ m, n = m + 1 := ⟨n - 1, by omega⟩
    rcases hs m j s (by omega) h with ⟨s', e, h2, h3⟩ | ⟨s', e, h2, h3⟩
    · rw [e]
      rcases ih (j + 1) m s' (by omega) (by omega) h2 with ⟨s2, a, b, c⟩ | ⟨s2, a, b, c⟩
      · refine Or.inl ⟨s2, a, b, fun q h4 h5 => ?_⟩
        by_cases w : q = j
        · rw [w]; exact h3
        · exact c q (by omega) h5
      · exact Or.inr ⟨s2, a, b, c⟩
    · exact Or.inr ⟨s', e, h2, j, by omega, h3⟩
def K6 (i j k a b c : Nat) : Nat := ((((i * 5 + j) * 5 + k) * 5 + a) * 5 + b) * 5 + c
theorem K6_lt {x y z k l r : Nat} (hy : y < r) (h5 : r ≤ 5) (hk : k < l) (h : x * (5 * l) + y * l + k < (z + 1) * (5 * l)) : x * (5 * l) + y * l + k < z * (5 * l) + r * l := by
  rcases Nat.lt_or_ge x z with w | w
  · have a : (x + 1) * (5 * l) ≤ z * (5 * l) := Nat.mul_le_mul_right _ w
    have b : (y + 1) * l ≤ 5 * l := Nat.mul_le_mul_right _ (by omega)
    rw [Nat.add_mul] at a b
    omega
  · have b : (y + 1) * l ≤ r * l := Nat.mul_le_mul_right _ hy
    have c : x = z := by
      rcases Nat.lt_or_ge z x with v | v
      · have a : (z + 1) * (5 * l) ≤ x * (5 * l) := Nat.mul_le_mul_right _ v
        omega
      · omega
    subst c
    rw [Nat.add_mul] at b
    omega
theorem inj5 {x y c d : Nat} (hc : c < 5) (hd : d < 5) (h : x * 5 + c = y * 5 + d) : x = y ∧ c = d := by omega
theorem K6_inj {i j k a b c i' j' k' a' b' c' : Nat} (hj : j < 5) (hk : k < 5) (ha : a < 5) (hb : b < 5) (hc : c < 5) (hj' : j' < 5) (hk' : k' < 5) (ha' : a' < 5) (hb' : b' < 5) (hc' : c' < 5) (h : K6 i j k a b c = K6 i' j' k' a' b' c') : i = i' ∧ j = j' ∧ k = k' ∧ a = a' ∧ b = b' ∧ c = c' := by
  unfold K6 at h
  obtain ⟨h, e1⟩ := inj5 hc hc' h
  obtain ⟨h, e2⟩ := inj5 hb hb' h
  obtain ⟨h, e3⟩ := inj5 ha ha' h
  obtain ⟨h, e4⟩ := inj5 hk hk' h
  obtain ⟨h, e5⟩ := inj5 hj hj' h
  exact ⟨h, e5, e4, e3, e2, e1⟩
def key6 (s A B C : Nat) : Nat := K6 (A / s) (B / s) (C / s) (A % s) (B % s) (C % s)
def prd (N1 N2 : Nat → Nat) (s A B C : Nat) : Nat := nn N1 (A / s) (B / s) (C / s) * nn N2 (A % s) (B % s) (C % s)
def GB (N1 N2 : Nat → Nat) (R s : Nat) (I : SI) (K : Nat) (S : SI) : Prop := ∃ N', BT 6 R N' I S ∧ (∀ A B C, A < R → B < R → C < R → key6 s A B C < K → nn N' A B C = prd N1 N2 s A B C) ∧ ∀ A B C, A < 5 → B < 5 → C < 5 → ¬ (A < R ∧ B < R ∧ C < R) → nn N' A B C = 0
def GM (N1 N2 : Nat → Nat) (R s : Nat) (I : SI) (K : Nat) (S : SI) : Prop := ∃ N', MT 6 R N' I S ∧ (∀ A B C, A < R → B < R → C < R → (A * 5 + B) * 5 + C < K → nn N' A B C = prd N1 N2 s A B C) ∧ ∀ A B C, A < 5 → B < 5 → C < 5 → ¬ (A < R ∧ B < R ∧ C < R) → nn N' A B C = 0
theorem nn_setN {N : Nat → Nat} {a b c v A B C : Nat} (hb : b < 5) (hc : c < 5) (hB : B < 5) (hC : C < 5) : nn (setN N (25 * a + 5 * b + c) v) A B C = if A = a ∧ B = b ∧ C = c then v else nn N A B C := by
  show (if 25 * A + 5 * B + C = 25 * a + 5 * b + c then v else N (25 * A + 5 * B + C)) = _
  by_cases h : A = a ∧ B = b ∧ C = c
  · obtain ⟨rfl, rfl, rfl⟩ := h
    rw [if_pos rfl, if_pos ⟨rfl, rfl, rfl⟩]
  · rw [if_neg h, if_neg (fun q => h (by omega))]
theorem unit_out : ∀ R, R ≤ 5 → ∀ {A B C : Nat}, A < 5 → B < 5 → C < 5 → ¬ (A < R ∧ B < R ∧ C < R) → nn (unitN R) A B C = 0 := by
  intro R
  induction R with
  | zero => intro _ A B C _ _ _ _; rfl
  | succ R ih =>
    intro h5 A B C hA hB hC h
    have e := ih (by omega) hA hB hC (fun q => h ⟨by omega, by omega, by omega⟩)
    show (if 25 * A + 5 * B + C = 25 * R + 5 * 0 + R then 1 else if 25 * A + 5 * B + C = 25 * 0 + 5 * R + R then 1 else nn (unitN R) A B C) = 0
    rw [if_neg (fun q => ?_), if_neg (fun q => ?_), e]
    · have q1 : A = 0 := by omega
      have q2 : B = R := by omega
      exact h (by omega)
    · have q1 : A = R := by omega
      have q2 : B = 0 := by omega
      exact h (by omega)
theorem blk_lt {i a rr s : Nat} (hi : i < rr) (ha : a < s) : i * s + a < rr * s := by
  have : (i + 1) * s ≤ rr * s := Nat.mul_le_mul_right s hi
  rw [Nat.add_mul] at this
  omega
theorem blk_dm {i a s : Nat} (ha : a < s) : (i * s + a) / s = i ∧ (i * s + a) % s = a := by
  rw [Nat.mul_comm]
  exact ⟨by rw [Nat.mul_add_div (by omega), Nat.div_eq_of_lt ha, Nat.add_zero], by rw [Nat.mul_add_mod, Nat.mod_eq_of_lt ha]⟩
section TB
variable {N1 N2 : Nat → Nat} {rr s x1 x2 : Nat} {I : SI}
theorem GB.le {R K K' : Nat} {S : SI} (h : GB N1 N2 R s I K S) (hk : ∀ A B C, A < R → B < R → C < R → key6 s A B C < K' → key6 s A B C < K) : GB N1 N2 R s I K' S := by
  obtain ⟨N', a, b, c⟩ := h
  exact ⟨N', a, fun A B C h1 h2 h3 h4 => b A B C h1 h2 h3 (hk A B C h1 h2 h3 h4), c⟩
theorem md {A s rr : Nat} (hs : 1 ≤ s) (hR : rr * s ≤ 5) (hA : A < rr * s) : A % s < s ∧ A % s < 5 ∧ A / s < 5 ∧ A / s < rr := ⟨Nat.mod_lt _ hs, Nat.lt_of_le_of_lt (Nat.mod_le _ _) (by omega), Nat.lt_of_le_of_lt (Nat.div_le_self _ _) (by omega), Nat.div_lt_of_lt_mul (by rw [Nat.mul_comm]; exact hA)⟩
theorem B_b27 (h2 : TB I x2 s N2) (o1 : OKT rr N1) (o2 : OKT s N2) (hR : rr * s ≤ 5) (hx2 : x2 < 6) {i j k a b : Nat} (hi : i < rr) (hj : j < rr) (hk : k < rr) (ha : a < s) (hb : b < s) {S : SI} (hS : GB N1 N2 (rr * s) s I (K6 i j k a b 0) S) :
    (∃ S', lp_X7_placeBlock_27 6 x2 (nI (nn N1 i j k)) (nI (i * s)) (nI (j * s)) (nI (k * s)) (nI a) (nI b) FU 0 S = some (1, S') ∧ GB N1 N2 (rr * s) s I (K6 i j k a b s) S' ∧ ∀ c, 0 ≤ c → c < s → nn N1 i j k * nn N2 a b c ≤ 9) ∨ (∃ S', lp_X7_placeBlock_27 6 x2 (nI (nn N1 i j k)) (nI (i * s)) (nI (j * s)) (nI (k * s)) (nI a) (nI b) FU 0 S = some (0, S') ∧ Fr [6, 14] I S' ∧ ∃ c, c < s ∧ ¬ nn N1 i j k * nn N2 a b c ≤ 9) := by
  obtain ⟨r1, r5, r9⟩ := id o1
  obtain ⟨s1, s5, s9⟩ := id o2
  refine exitLoop (fun n c S => lp_X7_placeBlock_27 6 x2 (nI (nn N1 i j k)) (nI (i * s)) (nI (j * s)) (nI (k * s)) (nI a) (nI b) n (nI c) S) s (fun c S => GB N1 N2 (rr * s) s I (K6 i j k a b c) S) (fun S => Fr [6, 14] I S) (fun c => nn N1 i j k * nn N2 a b c ≤ 9) (fun n S hS => ?_) (fun n c S hc hS => ?_) s 0 FU S (Nat.zero_add s) (FUlt s5) hS
  · obtain ⟨N', hB, _, _⟩ := hS
    have t2 := h2.fr hB.1 (by simp; omega) (by simp; omega)
    show lp_X7_placeBlock_27 _ _ _ _ _ _ _ _ (n + 1) (nI s) S = _
    rw [lp_X7_placeBlock_27.eq_2, t2.1, if_pos (nI_le (Nat.le_refl _) (by omega))]
  · obtain ⟨N', hB, hW, hO⟩ := hS
    have t2 := h2.fr hB.1 (by simp; omega) (by simp; omega)
    have b1 := o1.nn (i := i) (j := j) (k := k) (by omega) (by omega) (by omega)
    have b2 := o2.nn (i := a) (j := b) (k := c) (by omega) (by omega) (by omega)
    have b3 : nn N1 i j k * nn N2 a b c ≤ 9 * 9 := Nat.mul_le_mul b1 b2
    have lA := blk_lt hi ha
    have lB := blk_lt hj hb
    have lC := blk_lt hk hc
    have e1 := B_num t2 (i := a) (j := b) (k := c) (by omega) (by omega) (by omega)
    by_cases w : nn N1 i j k * nn N2 a b c ≤ 9
    · left
      obtain ⟨S2, e2, hB2⟩ := B_step hB (i := i * s + a) (j := j * s + b) (k := k * s + c) (nn N1 i j k * nn N2 a b c) (by omega)
      refine ⟨S2, ?_, ⟨_, hB2, fun A B C hA hB hC hk2 => ?_, fun A B C hA hB hC hk2 => ?_⟩, w⟩
      · show lp_X7_placeBlock_27 _ _ _ _ _ _ _ _ (n + 1) (nI c) S = lp_X7_placeBlock_27 _ _ _ _ _ _ _ _ n (nI (c + 1)) S2
        rw [lp_X7_placeBlock_27.eq_2, t2.1, if_neg (le_nI (by omega) (by omega) (by omega)), bd_ok e1, pk_mul, if_pos (show nI (nn N1 i j k * nn N2 a b c) ≤ 9 from nI_le (b := 9) w (by omega)), nI_add, nI_add, nI_add, bd_ok e2, show nI c + 1 = nI (c + 1) from nI_1 c]
      · rw [nn_setN (by omega) (by omega) (by omega) (by omega)]
        by_cases y : A = i * s + a ∧ B = j * s + b ∧ C = k * s + c
        · rw [if_pos y]
          obtain ⟨rfl, rfl, rfl⟩ := y
          unfold prd
          rw [(blk_dm ha).1, (blk_dm ha).2, (blk_dm hb).1, (blk_dm hb).2, (blk_dm hc).1, (blk_dm hc).2]
        · rw [if_neg y]
          refine hW A B C hA hB hC ?_
          have mA := md s1 hR hA
          have mB := md s1 hR hB
          have mC := md s1 hR hC
          have dA := Nat.div_add_mod A s
          have dB := Nat.div_add_mod B s
          have dC := Nat.div_add_mod C s
          refine Nat.lt_of_le_of_ne (Nat.le_of_lt_succ (by unfold K6 at hk2 ⊢; exact hk2)) (fun q => y ?_)
          obtain ⟨q1, q2, q3, q4, q5, q6⟩ := K6_inj mB.2.2.1 mC.2.2.1 mA.2.1 mB.2.1 mC.2.1 (show j < 5 by omega) (show k < 5 by omega) (show a < 5 by omega) (show b < 5 by omega) (show c < 5 by omega) q
          rw [q1] at dA
          rw [q2] at dB
          rw [q3] at dC
          rw [Nat.mul_comm] at dA dB dC
          refine ⟨by omega, by omega, by omega⟩
      · rw [nn_setN (by omega) (by omega) hB hC, if_neg (fun y => hk2 ⟨by omega, by omega, by omega⟩)]
        exact hO A B C hA hB hC hk2
    · right
      refine ⟨S, ?_, hB.1, w⟩
      show lp_X7_placeBlock_27 _ _ _ _ _ _ _ _ (n + 1) (nI c) S = _
      rw [lp_X7_placeBlock_27.eq_2, t2.1, if_neg (le_nI (by omega) (by omega) (by omega)), bd_ok e1, pk_mul, if_neg (show ¬ nI (nn N1 i j k * nn N2 a b c) ≤ 9 from le_nI (b := 9) (by omega) (by omega) (by omega))]
theorem B_b15 (h2 : TB I x2 s N2) (o1 : OKT rr N1) (o2 : OKT s N2) (hR : rr * s ≤ 5) (hx2 : x2 < 6) {i j k a : Nat} (hi : i < rr) (hj : j < rr) (hk : k < rr) (ha : a < s) {S : SI} (hS : GB N1 N2 (rr * s) s I (K6 i j k a 0 0) S) :
    (∃ S', lp_X7_placeBlock_15 6 x2 (nI (nn N1 i j k)) (nI (i * s)) (nI (j * s)) (nI (k * s)) (nI a) FU 0 S = some (1, S') ∧ GB N1 N2 (rr * s) s I (K6 i j k a s 0) S' ∧ ∀ b, 0 ≤ b → b < s → ∀ c, c < s → nn N1 i j k * nn N2 a b c ≤ 9) ∨ (∃ S', lp_X7_placeBlock_15 6 x2 (nI (nn N1 i j k)) (nI (i * s)) (nI (j * s)) (nI (k * s)) (nI a) FU 0 S = some (0, S') ∧ Fr [6, 14] I S' ∧ ∃ b, b < s ∧ ¬ ∀ c, c < s → nn N1 i j k * nn N2 a b c ≤ 9) := by
  obtain ⟨s1, s5, s9⟩ := id o2
  refine exitLoop (fun n b S => lp_X7_placeBlock_15 6 x2 (nI (nn N1 i j k)) (nI (i * s)) (nI (j * s)) (nI (k * s)) (nI a) n (nI b) S) s (fun b S => GB N1 N2 (rr * s) s I (K6 i j k a b 0) S) (fun S => Fr [6, 14] I S) (fun b => ∀ c, c < s → nn N1 i j k * nn N2 a b c ≤ 9) (fun n S hS => ?_) (fun n b S hb hS => ?_) s 0 FU S (Nat.zero_add s) (FUlt s5) hS
  · obtain ⟨N', hB, _, _⟩ := hS
    have t2 := h2.fr hB.1 (by simp; omega) (by simp; omega)
    show lp_X7_placeBlock_15 _ _ _ _ _ _ _ (n + 1) (nI s) S = _
    rw [lp_X7_placeBlock_15.eq_2, t2.1, if_pos (nI_le (Nat.le_refl _) (by omega))]
  · have t2 := h2.fr (hS.choose_spec.1).1 (by simp; omega) (by simp; omega)
    rcases B_b27 h2 o1 o2 hR hx2 hi hj hk ha hb hS with ⟨S', e, g, w⟩ | ⟨S', e, g, c, hc, w⟩
    · left
      refine ⟨S', ?_, g.le (fun A B C hA hB hC y => ?_), fun c hc => w c (Nat.zero_le _) hc⟩
      · show lp_X7_placeBlock_15 _ _ _ _ _ _ _ (n + 1) (nI b) S = lp_X7_placeBlock_15 _ _ _ _ _ _ _ n (nI (b + 1)) S'
        rw [lp_X7_placeBlock_15.eq_2, t2.1, if_neg (le_nI (by omega) (by omega) (by omega)), bd_ok e, show nI b + 1 = nI (b + 1) from nI_1 b]
        rfl
      · have mC := md s1 hR hC
        unfold key6 K6 at y ⊢
        omega
    · right
      refine ⟨S', ?_, g, fun q => w (q c hc)⟩
      show lp_X7_placeBlock_15 _ _ _ _ _ _ _ (n + 1) (nI b) S = _
      rw [lp_X7_placeBlock_15.eq_2, t2.1, if_neg (le_nI (by omega) (by omega) (by omega)), bd_ok e]
      rfl
theorem B_b3 (h2 : TB I x2 s N2) (o1 : OKT rr N1) (o2 : OKT s N2) (hR : rr * s ≤ 5) (hx2 : x2 < 6) {i j k : Nat} (hi : i < rr) (hj : j < rr) (hk : k < rr) {S : SI} (hS : GB N1 N2 (rr * s) s I (K6 i j k 0 0 0) S) :
    (∃ S', f_X7_placeBlock 6 x2 (nI (nn N1 i j k)) (nI (i * s)) (nI (j * s)) (nI (k * s)) S = some (1, S') ∧ GB N1 N2 (rr * s) s I (K6 i j k s 0 0) S' ∧ ∀ a, a < s → ∀ b, b < s → ∀ c, c < s → nn N1 i j k * nn N2 a b c ≤ 9) ∨ (∃ S', f_X7_placeBlock 6 x2 (nI (nn N1 i j k)) (nI (i * s)) (nI (j * s)) (nI (k * s)) S = some (0, S') ∧ Fr [6, 14] I S' ∧ ¬ ∀ a, a < s → ∀ b, b < s → ∀ c, c < s → nn N1 i j k * nn N2 a b c ≤ 9) := by
  obtain ⟨s1, s5, s9⟩ := id o2
  have e : (∃ S', lp_X7_placeBlock_3 6 x2 (nI (nn N1 i j k)) (nI (i * s)) (nI (j * s)) (nI (k * s)) FU 0 S = some (1, S') ∧ GB N1 N2 (rr * s) s I (K6 i j k s 0 0) S' ∧ ∀ a, 0 ≤ a → a < s → ∀ b, b < s → ∀ c, c < s → nn N1 i j k * nn N2 a b c ≤ 9) ∨ (∃ S', lp_X7_placeBlock_3 6 x2 (nI (nn N1 i j k)) (nI (i * s)) (nI (j * s)) (nI (k * s)) FU 0 S = some (0, S') ∧ Fr [6, 14] I S' ∧ ∃ a, a < s ∧ ¬ ∀ b, b < s → ∀ c, c < s → nn N1 i j k * nn N2 a b c ≤ 9) := by
    refine exitLoop (fun n a S => lp_X7_placeBlock_3 6 x2 (nI (nn N1 i j k)) (nI (i * s)) (nI (j * s)) (nI (k * s)) n (nI a) S) s (fun a S => GB N1 N2 (rr * s) s I (K6 i j k a 0 0) S) (fun S => Fr [6, 14] I S) (fun a => ∀ b, b < s → ∀ c, c < s → nn N1 i j k * nn N2 a b c ≤ 9) (fun n S hS => ?_) (fun n a S ha hS => ?_) s 0 FU S (Nat.zero_add s) (FUlt s5) hS
    · obtain ⟨N', hB, _, _⟩ := hS
      have t2 := h2.fr hB.1 (by simp; omega) (by simp; omega)
      show lp_X7_placeBlock_3 _ _ _ _ _ _ (n + 1) (nI s) S = _
      rw [lp_X7_placeBlock_3.eq_2, t2.1, if_pos (nI_le (Nat.le_refl _) (by omega))]
    · have t2 := h2.fr (hS.choose_spec.1).1 (by simp; omega) (by simp; omega)
      rcases B_b15 h2 o1 o2 hR hx2 hi hj hk ha hS with ⟨S', e, g, w⟩ | ⟨S', e, g, b, hb, w⟩
      · left
        refine ⟨S', ?_, g.le (fun A B C hA hB hC y => ?_), fun b hb => w b (Nat.zero_le _) hb⟩
        · show lp_X7_placeBlock_3 _ _ _ _ _ _ (n + 1) (nI a) S = lp_X7_placeBlock_3 _ _ _ _ _ _ n (nI (a + 1)) S'
          rw [lp_X7_placeBlock_3.eq_2, t2.1, if_neg (le_nI (by omega) (by omega) (by omega)), bd_ok e, show nI a + 1 = nI (a + 1) from nI_1 a]
          rfl
        · have mB := md s1 hR hB
          have mC := md s1 hR hC
          unfold key6 K6 at y ⊢
          omega
      · right
        refine ⟨S', ?_, g, fun q => w (q b hb)⟩
        show lp_X7_placeBlock_3 _ _ _ _ _ _ (n + 1) (nI a) S = _
        rw [lp_X7_placeBlock_3.eq_2, t2.1, if_neg (le_nI (by omega) (by omega) (by omega)), bd_ok e]
        rfl
  rcases e with ⟨S', e, g, w⟩ | ⟨S', e, g, a, ha, w⟩
  · left
    refine ⟨S', ?_, g, fun a ha => w a (Nat.zero_le _) ha⟩
    unfold f_X7_placeBlock
    rw [bd_ok e]
    rfl
  · right
    refine ⟨S', ?_, g, fun q => w (q a ha)⟩
    unfold f_X7_placeBlock
    rw [bd_ok e]
    rfl
abbrev okb (N1 N2 : Nat → Nat) (s i j k : Nat) : Prop := ∀ a, a < s → ∀ b, b < s → ∀ c, c < s → nn N1 i j k * nn N2 a b c ≤ 9
theorem B_p42 (h1 : TB I x1 rr N1) (h2 : TB I x2 s N2) (o1 : OKT rr N1) (o2 : OKT s N2) (hR : rr * s ≤ 5) (hx1 : x1 < 6) (hx2 : x2 < 6) {i j : Nat} (hi : i < rr) (hj : j < rr) {S : SI} (hS : GB N1 N2 (rr * s) s I (K6 i j 0 0 0 0) S) :
    (∃ S', lp_X7_becomeProduct_42 6 x1 x2 (nI s) (nI i) (nI j) FU 0 S = some (1, S') ∧ GB N1 N2 (rr * s) s I (K6 i j rr 0 0 0) S' ∧ ∀ k, 0 ≤ k → k < rr → okb N1 N2 s i j k) ∨ (∃ S', lp_X7_becomeProduct_42 6 x1 x2 (nI s) (nI i) (nI j) FU 0 S = some (0, S') ∧ Fr [6, 14] I S' ∧ ∃ k, k < rr ∧ ¬ okb N1 N2 s i j k) := by
  obtain ⟨r1, r5, r9⟩ := id o1
  obtain ⟨s1, s5, s9⟩ := id o2
  refine exitLoop (fun n k S => lp_X7_becomeProduct_42 6 x1 x2 (nI s) (nI i) (nI j) n (nI k) S) rr (fun k S => GB N1 N2 (rr * s) s I (K6 i j k 0 0 0) S) (fun S => Fr [6, 14] I S) (fun k => okb N1 N2 s i j k) (fun n S hS => ?_) (fun n k S hk hS => ?_) rr 0 FU S (Nat.zero_add rr) (FUlt r5) hS
  · have t1 := h1.fr (hS.choose_spec.1).1 (by simp; omega) (by simp; omega)
    show lp_X7_becomeProduct_42 _ _ _ _ _ _ (n + 1) (nI rr) S = _
    rw [lp_X7_becomeProduct_42.eq_2, t1.1, if_pos (nI_le (Nat.le_refl _) (by omega))]
  · have t1 := h1.fr (hS.choose_spec.1).1 (by simp; omega) (by simp; omega)
    have e1 := B_num t1 (i := i) (j := j) (k := k) (by omega) (by omega) (by omega)
    rcases B_b3 h2 o1 o2 hR hx2 hi hj hk hS with ⟨S', e, g, w⟩ | ⟨S', e, g, w⟩
    · left
      refine ⟨S', ?_, g.le (fun A B C hA hB hC y => ?_), w⟩
      · show lp_X7_becomeProduct_42 _ _ _ _ _ _ (n + 1) (nI k) S = lp_X7_becomeProduct_42 _ _ _ _ _ _ n (nI (k + 1)) S'
        rw [lp_X7_becomeProduct_42.eq_2, t1.1, if_neg (le_nI (by omega) (by omega) (by omega)), bd_ok e1, pk_mul, pk_mul, pk_mul, bd_ok e, show nI k + 1 = nI (k + 1) from nI_1 k]
        rfl
      · have mA := md s1 hR hA
        have mB := md s1 hR hB
        have mC := md s1 hR hC
        unfold key6 K6 at y ⊢
        omega
    · right
      refine ⟨S', ?_, g, w⟩
      show lp_X7_becomeProduct_42 _ _ _ _ _ _ (n + 1) (nI k) S = _
      rw [lp_X7_becomeProduct_42.eq_2, t1.1, if_neg (le_nI (by omega) (by omega) (by omega)), bd_ok e1, pk_mul, pk_mul, pk_mul, bd_ok e]
      rfl
theorem B_p30 (h1 : TB I x1 rr N1) (h2 : TB I x2 s N2) (o1 : OKT rr N1) (o2 : OKT s N2) (hR : rr * s ≤ 5) (hx1 : x1 < 6) (hx2 : x2 < 6) {i : Nat} (hi : i < rr) {S : SI} (hS : GB N1 N2 (rr * s) s I (K6 i 0 0 0 0 0) S) :
    (∃ S', lp_X7_becomeProduct_30 6 x1 x2 (nI s) (nI i) FU 0 S = some (1, S') ∧ GB N1 N2 (rr * s) s I (K6 i rr 0 0 0 0) S' ∧ ∀ j, 0 ≤ j → j < rr → ∀ k, k < rr → okb N1 N2 s i j k) ∨ (∃ S', lp_X7_becomeProduct_30 6 x1 x2 (nI s) (nI i) FU 0 S = some (0, S') ∧ Fr [6, 14] I S' ∧ ∃ j, j < rr ∧ ¬ ∀ k, k < rr → okb N1 N2 s i j k) := by
  obtain ⟨r1, r5, r9⟩ := id o1
  obtain ⟨s1, s5, s9⟩ := id o2
  refine exitLoop (fun n j S => lp_X7_becomeProduct_30 6 x1 x2 (nI s) (nI i) n (nI j) S) rr (fun j S => GB N1 N2 (rr * s) s I (K6 i j 0 0 0 0) S) (fun S => Fr [6, 14] I S) (fun j => ∀ k, k < rr → okb N1 N2 s i j k) (fun n S hS => ?_) (fun n j S hj hS => ?_) rr 0 FU S (Nat.zero_add rr) (FUlt r5) hS
  · have t1 := h1.fr (hS.choose_spec.1).1 (by simp; omega) (by simp; omega)
    show lp_X7_becomeProduct_30 _ _ _ _ _ (n + 1) (nI rr) S = _
    rw [lp_X7_becomeProduct_30.eq_2, t1.1, if_pos (nI_le (Nat.le_refl _) (by omega))]
  · have t1 := h1.fr (hS.choose_spec.1).1 (by simp; omega) (by simp; omega)
    rcases B_p42 h1 h2 o1 o2 hR hx1 hx2 hi hj hS with ⟨S', e, g, w⟩ | ⟨S', e, g, k, hk, w⟩
    · left
      refine ⟨S', ?_, g.le (fun A B C hA hB hC y => ?_), fun k hk => w k (Nat.zero_le _) hk⟩
      · show lp_X7_becomeProduct_30 _ _ _ _ _ (n + 1) (nI j) S = lp_X7_becomeProduct_30 _ _ _ _ _ n (nI (j + 1)) S'
        rw [lp_X7_becomeProduct_30.eq_2, t1.1, if_neg (le_nI (by omega) (by omega) (by omega)), bd_ok e, show nI j + 1 = nI (j + 1) from nI_1 j]
        rfl
      · have mA := md s1 hR hA
        have mB := md s1 hR hB
        have mC := md s1 hR hC
        have q := K6_lt (z := i * 5 + j) (x := A / s * 5 + B / s) (y := C / s) (k := (A % s * 5 + B % s) * 5 + C % s) (l := 125) (r := rr) mC.2.2.2 r5 (by omega) (by unfold key6 K6 at y; omega)
        unfold key6 K6
        omega
    · right
      refine ⟨S', ?_, g, fun q => w (q k hk)⟩
      show lp_X7_becomeProduct_30 _ _ _ _ _ (n + 1) (nI j) S = _
      rw [lp_X7_becomeProduct_30.eq_2, t1.1, if_neg (le_nI (by omega) (by omega) (by omega)), bd_ok e]
      rfl
theorem B_prod (h1 : TB I x1 rr N1) (h2 : TB I x2 s N2) (o1 : OKT rr N1) (o2 : OKT s N2) (hR : rr * s ≤ 5) (hx1 : x1 < 6) (hx2 : x2 < 6) :
    (∃ S', f_X7_becomeProduct 6 x1 x2 I = some (1, S') ∧ GB N1 N2 (rr * s) s I (K6 rr 0 0 0 0 0) S' ∧ ∀ i, i < rr → ∀ j, j < rr → ∀ k, k < rr → okb N1 N2 s i j k) ∨ (∃ S', f_X7_becomeProduct 6 x1 x2 I = some (0, S') ∧ Fr [6, 14] I S' ∧ ¬ ∀ i, i < rr → ∀ j, j < rr → ∀ k, k < rr → okb N1 N2 s i j k) := by
  obtain ⟨r1, r5, r9⟩ := id o1
  obtain ⟨s1, s5, s9⟩ := id o2
  obtain ⟨S0, e0, hB0⟩ := B_reset (x := 6) (r := rr * s) (by decide) hR I
  have hG : GB N1 N2 (rr * s) s I (K6 0 0 0 0 0 0) S0 := ⟨_, hB0, fun A B C _ _ _ y => by unfold K6 at y; omega, fun A B C hA hB hC y => unit_out _ hR hA hB hC y⟩
  have e : (∃ S', lp_X7_becomeProduct_18 6 x1 x2 (nI s) FU 0 S0 = some (1, S') ∧ GB N1 N2 (rr * s) s I (K6 rr 0 0 0 0 0) S' ∧ ∀ i, 0 ≤ i → i < rr → ∀ j, j < rr → ∀ k, k < rr → okb N1 N2 s i j k) ∨ (∃ S', lp_X7_becomeProduct_18 6 x1 x2 (nI s) FU 0 S0 = some (0, S') ∧ Fr [6, 14] I S' ∧ ∃ i, i < rr ∧ ¬ ∀ j, j < rr → ∀ k, k < rr → okb N1 N2 s i j k) := by
    refine exitLoop (fun n i S => lp_X7_becomeProduct_18 6 x1 x2 (nI s) n (nI i) S) rr (fun i S => GB N1 N2 (rr * s) s I (K6 i 0 0 0 0 0) S) (fun S => Fr [6, 14] I S) (fun i => ∀ j, j < rr → ∀ k, k < rr → okb N1 N2 s i j k) (fun n S hS => ?_) (fun n i S hi hS => ?_) rr 0 FU S0 (Nat.zero_add rr) (FUlt r5) hG
    · have t1 := h1.fr (hS.choose_spec.1).1 (by simp; omega) (by simp; omega)
      show lp_X7_becomeProduct_18 _ _ _ _ (n + 1) (nI rr) S = _
      rw [lp_X7_becomeProduct_18.eq_2, t1.1, if_pos (nI_le (Nat.le_refl _) (by omega))]
    · have t1 := h1.fr (hS.choose_spec.1).1 (by simp; omega) (by simp; omega)
      rcases B_p30 h1 h2 o1 o2 hR hx1 hx2 hi hS with ⟨S', e, g, w⟩ | ⟨S', e, g, j, hj, w⟩
      · left
        refine ⟨S', ?_, g.le (fun A B C hA hB hC y => ?_), fun j hj => w j (Nat.zero_le _) hj⟩
        · show lp_X7_becomeProduct_18 _ _ _ _ (n + 1) (nI i) S = lp_X7_becomeProduct_18 _ _ _ _ n (nI (i + 1)) S'
          rw [lp_X7_becomeProduct_18.eq_2, t1.1, if_neg (le_nI (by omega) (by omega) (by omega)), bd_ok e, show nI i + 1 = nI (i + 1) from nI_1 i]
          rfl
        · have mA := md s1 hR hA
          have mB := md s1 hR hB
          have mC := md s1 hR hC
          have q := K6_lt (z := i) (x := A / s) (y := B / s) (k := ((C / s * 5 + A % s) * 5 + B % s) * 5 + C % s) (l := 625) (r := rr) mB.2.2.2 r5 (by omega) (by unfold key6 K6 at y; omega)
          unfold key6 K6
          omega
      · right
        refine ⟨S', ?_, g, fun q => w (q j hj)⟩
        show lp_X7_becomeProduct_18 _ _ _ _ (n + 1) (nI i) S = _
        rw [lp_X7_becomeProduct_18.eq_2, t1.1, if_neg (le_nI (by omega) (by omega) (by omega)), bd_ok e]
        rfl
  rcases e with ⟨S', e, g, w⟩ | ⟨S', e, g, i, hi, w⟩
  · left
    refine ⟨S', ?_, g, fun i hi => w i (Nat.zero_le _) hi⟩
    unfold f_X7_becomeProduct
    rw [h1.1, h2.1, pk_mul, bd_ok e0, bd_ok e]
    rfl
  · right
    refine ⟨S', ?_, g, fun q => w (q i hi)⟩
    unfold f_X7_becomeProduct
    rw [h1.1, h2.1, pk_mul, bd_ok e0, bd_ok e]
    rfl
end TB
section TM
variable {N1 N2 : Nat → Nat} {rr s t1 t2 : Nat} {I : SI}
theorem M_t92 (h1 : TM I t1 rr N1) (h2 : TM I t2 s N2) (o1 : OKT rr N1) (o2 : OKT s N2) (hR : rr * s ≤ 5) (ht1 : t1 < 6) (ht2 : t2 < 6) (v3 : Int32) {A B : Nat} (hA : A < rr * s) (hB : B < rr * s) {S : SI} (hS : GM N1 N2 (rr * s) s I ((A * 5 + B) * 5 + 0) S) :
    (∃ S', lp_X9_together_92 (nI t1) (nI t2) v3 (nI rr) (nI s) (nI A) (nI B) FU 0 S = some (1, S') ∧ GM N1 N2 (rr * s) s I ((A * 5 + B) * 5 + rr * s) S' ∧ ∀ C, 0 ≤ C → C < rr * s → prd N1 N2 s A B C ≤ 9) ∨ (∃ S', lp_X9_together_92 (nI t1) (nI t2) v3 (nI rr) (nI s) (nI A) (nI B) FU 0 S = some (0, S') ∧ FrT 6 I S' ∧ ∃ C, C < rr * s ∧ ¬ prd N1 N2 s A B C ≤ 9) := by
  obtain ⟨r1, r5, r9⟩ := id o1
  obtain ⟨s1, s5, s9⟩ := id o2
  refine exitLoop (fun n C S => lp_X9_together_92 (nI t1) (nI t2) v3 (nI rr) (nI s) (nI A) (nI B) n (nI C) S) (rr * s) (fun C S => GM N1 N2 (rr * s) s I ((A * 5 + B) * 5 + C) S) (fun S => FrT 6 I S) (fun C => prd N1 N2 s A B C ≤ 9) (fun n S hS => ?_) (fun n C S hC hS => ?_) (rr * s) 0 FU S (Nat.zero_add _) (FUlt hR) hS
  · show lp_X9_together_92 _ _ _ _ _ _ _ (n + 1) (nI (rr * s)) S = _
    rw [lp_X9_together_92.eq_2, pk_mul, if_pos (nI_le (Nat.le_refl _) (by omega))]
  · obtain ⟨N', hM, hW, hO⟩ := hS
    have u1 := h1.frT hM.1 (by omega)
    have u2 := h2.frT hM.1 (by omega)
    have mA := md s1 hR hA
    have mB := md s1 hR hB
    have mC := md s1 hR hC
    have b1 := o1.nn mA.2.2.1 mB.2.2.1 mC.2.2.1
    have b2 := o2.nn mA.2.1 mB.2.1 mC.2.1
    have b3 : prd N1 N2 s A B C ≤ 9 * 9 := Nat.mul_le_mul b1 b2
    have e1 := M_num u1 (by omega) mA.2.2.1 mB.2.2.1 mC.2.2.1
    have e2 := M_num u2 (by omega) mA.2.1 mB.2.1 mC.2.1
    have e3 : nI (nn N1 (A / s) (B / s) (C / s)) * nI (nn N2 (A % s) (B % s) (C % s)) = nI (prd N1 N2 s A B C) := pk_mul _ _
    by_cases w : prd N1 N2 s A B C ≤ 9
    · left
      obtain ⟨S2, e4, hM2⟩ := M_step (by decide) hM (i := A) (j := B) (k := C) (prd N1 N2 s A B C) (by omega)
      refine ⟨S2, ?_, ⟨_, hM2, fun A' B' C' hA' hB' hC' hk2 => ?_, fun A' B' C' hA' hB' hC' hk2 => ?_⟩, w⟩
      · show lp_X9_together_92 _ _ _ _ _ _ _ (n + 1) (nI C) S = lp_X9_together_92 _ _ _ _ _ _ _ n (nI (C + 1)) S2
        rw [lp_X9_together_92.eq_2, pk_mul, if_neg (le_nI (by omega) (by omega) (by omega)), gd_nz (by omega) (by omega), gd_nz (by omega) (by omega), gd_nz (by omega) (by omega), pk_rem (by omega) (by omega) (by omega), pk_rem (by omega) (by omega) (by omega), pk_rem (by omega) (by omega) (by omega), pk_div (by omega) (by omega) (by omega), pk_div (by omega) (by omega) (by omega), pk_div (by omega) (by omega) (by omega), bd_ok e1, gd_nz (by omega) (by omega), gd_nz (by omega) (by omega), gd_nz (by omega) (by omega), bd_ok e2, e3, if_pos (show nI (prd N1 N2 s A B C) ≤ 9 from nI_le (b := 9) w (by omega)), bd_ok (show f_X9_lay 6 (nI A) (nI B) (nI C) (nI (prd N1 N2 s A B C)) S = some S2 from e4), show nI C + 1 = nI (C + 1) from nI_1 C]
      · rw [nn_setN (by omega) (by omega) (by omega) (by omega)]
        by_cases y : A' = A ∧ B' = B ∧ C' = C
        · rw [if_pos y]
          obtain ⟨rfl, rfl, rfl⟩ := y
          rfl
        · rw [if_neg y]
          refine hW A' B' C' hA' hB' hC' ?_
          omega
      · rw [nn_setN (by omega) (by omega) (by omega) (by omega), if_neg (fun y => hk2 ⟨by omega, by omega, by omega⟩)]
        exact hO A' B' C' hA' hB' hC' hk2
    · right
      refine ⟨S, ?_, hM.1, w⟩
      show lp_X9_together_92 _ _ _ _ _ _ _ (n + 1) (nI C) S = _
      rw [lp_X9_together_92.eq_2, pk_mul, if_neg (le_nI (by omega) (by omega) (by omega)), gd_nz (by omega) (by omega), gd_nz (by omega) (by omega), gd_nz (by omega) (by omega), pk_rem (by omega) (by omega) (by omega), pk_rem (by omega) (by omega) (by omega), pk_rem (by omega) (by omega) (by omega), pk_div (by omega) (by omega) (by omega), pk_div (by omega) (by omega) (by omega), pk_div (by omega) (by omega) (by omega), bd_ok e1, gd_nz (by omega) (by omega), gd_nz (by omega) (by omega), gd_nz (by omega) (by omega), bd_ok e2, e3, if_neg (show ¬ nI (prd N1 N2 s A B C) ≤ 9 from le_nI (b := 9) (by omega) (by omega) (by omega))]
theorem GM.le {R K K' : Nat} {S : SI} (h : GM N1 N2 R s I K S) (hk : ∀ A B C, A < R → B < R → C < R → (A * 5 + B) * 5 + C < K' → (A * 5 + B) * 5 + C < K) : GM N1 N2 R s I K' S := by
  obtain ⟨N', a, b, c⟩ := h
  exact ⟨N', a, fun A B C h1 h2 h3 h4 => b A B C h1 h2 h3 (hk A B C h1 h2 h3 h4), c⟩
theorem M_t79 (h1 : TM I t1 rr N1) (h2 : TM I t2 s N2) (o1 : OKT rr N1) (o2 : OKT s N2) (hR : rr * s ≤ 5) (ht1 : t1 < 6) (ht2 : t2 < 6) (v3 : Int32) {A : Nat} (hA : A < rr * s) {S : SI} (hS : GM N1 N2 (rr * s) s I ((A * 5 + 0) * 5 + 0) S) :
    (∃ S', lp_X9_together_79 (nI t1) (nI t2) v3 (nI rr) (nI s) (nI A) FU 0 S = some (1, S') ∧ GM N1 N2 (rr * s) s I ((A * 5 + rr * s) * 5 + 0) S' ∧ ∀ B, 0 ≤ B → B < rr * s → ∀ C, C < rr * s → prd N1 N2 s A B C ≤ 9) ∨ (∃ S', lp_X9_together_79 (nI t1) (nI t2) v3 (nI rr) (nI s) (nI A) FU 0 S = some (0, S') ∧ FrT 6 I S' ∧ ∃ B, B < rr * s ∧ ¬ ∀ C, C < rr * s → prd N1 N2 s A B C ≤ 9) := by
  refine exitLoop (fun n B S => lp_X9_together_79 (nI t1) (nI t2) v3 (nI rr) (nI s) (nI A) n (nI B) S) (rr * s) (fun B S => GM N1 N2 (rr * s) s I ((A * 5 + B) * 5 + 0) S) (fun S => FrT 6 I S) (fun B => ∀ C, C < rr * s → prd N1 N2 s A B C ≤ 9) (fun n S hS => ?_) (fun n B S hB hS => ?_) (rr * s) 0 FU S (Nat.zero_add _) (FUlt hR) hS
  · show lp_X9_together_79 _ _ _ _ _ _ (n + 1) (nI (rr * s)) S = _
    rw [lp_X9_together_79.eq_2, pk_mul, if_pos (nI_le (Nat.le_refl _) (by omega))]
  · rcases M_t92 h1 h2 o1 o2 hR ht1 ht2 v3 hA hB hS with ⟨S', e, g, w⟩ | ⟨S', e, g, C, hC, w⟩
    · left
      refine ⟨S', ?_, g.le (fun A B C hA hB hC y => by omega), fun C hC => w C (Nat.zero_le _) hC⟩
      show lp_X9_together_79 _ _ _ _ _ _ (n + 1) (nI B) S = lp_X9_together_79 _ _ _ _ _ _ n (nI (B + 1)) S'
      rw [lp_X9_together_79.eq_2, pk_mul, if_neg (le_nI (by omega) (by omega) (by omega)), bd_ok e, show nI B + 1 = nI (B + 1) from nI_1 B]
      rfl
    · right
      refine ⟨S', ?_, g, fun q => w (q C hC)⟩
      show lp_X9_together_79 _ _ _ _ _ _ (n + 1) (nI B) S = _
      rw [lp_X9_together_79.eq_2, pk_mul, if_neg (le_nI (by omega) (by omega) (by omega)), bd_ok e]
      rfl
theorem M_t66 (h1 : TM I t1 rr N1) (h2 : TM I t2 s N2) (o1 : OKT rr N1) (o2 : OKT s N2) (hR : rr * s ≤ 5) (ht1 : t1 < 6) (ht2 : t2 < 6) (v3 : Int32) {S : SI} (hS : GM N1 N2 (rr * s) s I ((0 * 5 + 0) * 5 + 0) S) :
    (∃ S', lp_X9_together_66 (nI t1) (nI t2) v3 (nI rr) (nI s) FU 0 S = some (1, S') ∧ GM N1 N2 (rr * s) s I ((rr * s * 5 + 0) * 5 + 0) S' ∧ ∀ A, 0 ≤ A → A < rr * s → ∀ B, B < rr * s → ∀ C, C < rr * s → prd N1 N2 s A B C ≤ 9) ∨ (∃ S', lp_X9_together_66 (nI t1) (nI t2) v3 (nI rr) (nI s) FU 0 S = some (0, S') ∧ FrT 6 I S' ∧ ∃ A, A < rr * s ∧ ¬ ∀ B, B < rr * s → ∀ C, C < rr * s → prd N1 N2 s A B C ≤ 9) := by
  refine exitLoop (fun n A S => lp_X9_together_66 (nI t1) (nI t2) v3 (nI rr) (nI s) n (nI A) S) (rr * s) (fun A S => GM N1 N2 (rr * s) s I ((A * 5 + 0) * 5 + 0) S) (fun S => FrT 6 I S) (fun A => ∀ B, B < rr * s → ∀ C, C < rr * s → prd N1 N2 s A B C ≤ 9) (fun n S hS => ?_) (fun n A S hA hS => ?_) (rr * s) 0 FU S (Nat.zero_add _) (FUlt hR) hS
  · show lp_X9_together_66 _ _ _ _ _ (n + 1) (nI (rr * s)) S = _
    rw [lp_X9_together_66.eq_2, pk_mul, if_pos (nI_le (Nat.le_refl _) (by omega))]
  · rcases M_t79 h1 h2 o1 o2 hR ht1 ht2 v3 hA hS with ⟨S', e, g, w⟩ | ⟨S', e, g, B, hB, w⟩
    · left
      refine ⟨S', ?_, g.le (fun A B C hA hB hC y => by omega), fun B hB => w B (Nat.zero_le _) hB⟩
      show lp_X9_together_66 _ _ _ _ _ (n + 1) (nI A) S = lp_X9_together_66 _ _ _ _ _ n (nI (A + 1)) S'
      rw [lp_X9_together_66.eq_2, pk_mul, if_neg (le_nI (by omega) (by omega) (by omega)), bd_ok e, show nI A + 1 = nI (A + 1) from nI_1 A]
      rfl
    · right
      refine ⟨S', ?_, g, fun q => w (q B hB)⟩
      show lp_X9_together_66 _ _ _ _ _ (n + 1) (nI A) S = _
      rw [lp_X9_together_66.eq_2, pk_mul, if_neg (le_nI (by omega) (by omega) (by omega)), bd_ok e]
      rfl
end TM
/-- the table put together -/
def PR (N1 N2 : Nat → Nat) (R s : Nat) : Nat → Nat := fun c => if c / 25 < R ∧ c / 5 % 5 < R ∧ c % 5 < R then prd N1 N2 s (c / 25) (c / 5 % 5) (c % 5) else 0
theorem of_abc {N N' : Nat → Nat} (h : ∀ A B C, A < 5 → B < 5 → C < 5 → nn N A B C = nn N' A B C) : ∀ c, c < 125 → N c = N' c := fun c hc => by
  have a := h (c / 25) (c / 5 % 5) (c % 5) (by omega) (by omega) (by omega)
  rw [show nn N (c / 25) (c / 5 % 5) (c % 5) = N c from congrArg N (by omega), show nn N' (c / 25) (c / 5 % 5) (c % 5) = N' c from congrArg N' (by omega)] at a
  exact a
theorem PR_at {N1 N2 : Nat → Nat} {R s A B C : Nat} (hA : A < 5) (hB : B < 5) (hC : C < 5) : nn (PR N1 N2 R s) A B C = if A < R ∧ B < R ∧ C < R then prd N1 N2 s A B C else 0 := by
  show (if (25 * A + 5 * B + C) / 25 < R ∧ (25 * A + 5 * B + C) / 5 % 5 < R ∧ (25 * A + 5 * B + C) % 5 < R then prd N1 N2 s ((25 * A + 5 * B + C) / 25) ((25 * A + 5 * B + C) / 5 % 5) ((25 * A + 5 * B + C) % 5) else 0) = _
  rw [show (25 * A + 5 * B + C) / 25 = A by omega, show (25 * A + 5 * B + C) / 5 % 5 = B by omega, show (25 * A + 5 * B + C) % 5 = C by omega]
theorem TB.congr {I : SI} {x r : Nat} {N N' : Nat → Nat} (h : TB I x r N) (e : ∀ c, c < 125 → N c = N' c) : TB I x r N' := ⟨h.1, fun c hc => by rw [← e c hc]; exact h.2 c hc⟩
theorem TM.congr {I : SI} {x r : Nat} {N N' : Nat → Nat} (h : TM I x r N) (e : ∀ c, c < 125 → N c = N' c) : TM I x r N' := ⟨h.1, fun c hc => by rw [← e c hc]; exact h.2 c hc⟩
section OT
variable {Lst : SI → Prop}
theorem op_together (hL : LFr Lst) {IB IM : SI} (h : Rel Lst IB IM) (a b d : Int32) : ∃ v IB' IM', f_X8_together a b d IB = some (v, IB') ∧ f_X9_together a b d IM = some (v, IM') ∧ Rel Lst IB' IM' := by
  rcases pick a 6 (by decide) with ⟨t1, ht1, rfl⟩ | ha
  · rcases pick b 6 (by decide) with ⟨t2, ht2, rfl⟩ | hb
    · rcases pick d 6 (by decide) with ⟨t3, ht3, rfl⟩ | hd
      · obtain ⟨rr, N1, o1, B1, M1⟩ := h.1 t1 ht1
        obtain ⟨s, N2, o2, B2, M2⟩ := h.1 t2 ht2
        obtain ⟨r1, r5, r9⟩ := id o1
        obtain ⟨s1, s5, s9⟩ := id o2
        have hrs : rr * s ≤ 5 * 5 := Nat.mul_le_mul r5 s5
        have hrs1 : 1 * 1 ≤ rr * s := Nat.mul_le_mul r1 s1
        have eB : f_X8_together (nI t1) (nI t2) (nI t3) IB = if nI (rr * s) ≤ 5 then bd (f_X7_becomeProduct 6 t1 t2 IB) (fun z => if z.1 = 0 then some (-3, z.2) else bd (f_X7_become t3 6 z.2) (fun I2 => some (I2 (8 + 6) 0, I2))) else some (-3, IB) := by
          unfold f_X8_together
          rw [bd_ok (e_isTable_in ht1), if_neg (by decide), bd_ok (e_isTable_in ht2), if_neg (by decide), bd_ok (e_isTable_in ht3), if_neg (by decide), gd6 ht1, gd6 ht2, cl (show t1 < 2 ^ 31 by omega), cl (show t2 < 2 ^ 31 by omega), B1.1, B2.1, pk_mul, cl (show t3 < 2 ^ 31 by omega)]
          rw [gd6c ht1, gd6c ht2]
          simp only [gd6c ht3]
        have eM : f_X9_together (nI t1) (nI t2) (nI t3) IM = if nI (rr * s) ≤ 5 then bd (f_X9_begin 6 (nI (rr * s)) IM) (fun I1 => bd (lp_X9_together_66 (nI t1) (nI t2) (nI t3) (nI rr) (nI s) FU 0 I1) (fun z => if z.1 = 0 then some (-3, z.2) else bd (f_X9_carry 6 (nI t3) z.2) (fun I2 => some (nI (rr * s), I2)))) else some (-3, IM) := by
          unfold f_X9_together
          rw [bd_ok (e_noTable_in ht1), if_pos rfl, bd_ok (e_noTable_in ht2), if_pos rfl, bd_ok (e_noTable_in ht3), if_pos rfl, gd_in (show t1 < 7 by omega) (by decide), gd_in (show t2 < 7 by omega) (by decide), cl (show t1 < 2 ^ 31 by omega), cl (show t2 < 2 ^ 31 by omega), M1.1, M2.1, pk_mul]
        by_cases hR : rr * s ≤ 5
        · rw [if_pos (show nI (rr * s) ≤ 5 from nI_le (b := 5) hR (by decide))] at eB eM
          obtain ⟨S0, e0, hM0⟩ := M_begin (t := 6) (r := rr * s) (by decide) hR IM
          have hG : GM N1 N2 (rr * s) s IM ((0 * 5 + 0) * 5 + 0) S0 := ⟨_, hM0, fun A B C _ _ _ y => by omega, fun A B C hA hB hC y => unit_out _ hR hA hB hC y⟩
          rw [bd_ok (show f_X9_begin 6 (nI (rr * s)) IM = some S0 from e0)] at eM
          -- the two questions are one
          have same : (∀ i, i < rr → ∀ j, j < rr → ∀ k, k < rr → okb N1 N2 s i j k) ↔ ∀ A, A < rr * s → ∀ B, B < rr * s → ∀ C, C < rr * s → prd N1 N2 s A B C ≤ 9 := by
            constructor
            · intro q A hA B hB C hC
              have mA := md s1 hR hA
              have mB := md s1 hR hB
              have mC := md s1 hR hC
              exact q (A / s) mA.2.2.2 (B / s) mB.2.2.2 (C / s) mC.2.2.2 (A % s) mA.1 (B % s) mB.1 (C % s) mC.1
            · intro q i hi j hj k hk a ha b hb c hc
              have z := q (i * s + a) (blk_lt hi ha) (j * s + b) (blk_lt hj hb) (k * s + c) (blk_lt hk hc)
              unfold prd at z
              rw [(blk_dm ha).1, (blk_dm ha).2, (blk_dm hb).1, (blk_dm hb).2, (blk_dm hc).1, (blk_dm hc).2] at z
              exact z
          rcases B_prod B1 B2 o1 o2 hR ht1 ht2 with ⟨SB, eb, gb, wb⟩ | ⟨SB, eb, gb, wb⟩
          · rcases M_t66 (I := IM) M1 M2 o1 o2 hR ht1 ht2 (nI t3) hG with ⟨SM, em, gm, wm⟩ | ⟨SM, em, gm, A, hA, wm⟩
            · obtain ⟨NB, hB, hBW, hBO⟩ := gb
              obtain ⟨NM, hM, hMW, hMO⟩ := gm
              have cB : ∀ c, c < 125 → NB c = PR N1 N2 (rr * s) s c := of_abc (fun A B C hA hB hC => by
                rw [PR_at hA hB hC]
                by_cases y : A < rr * s ∧ B < rr * s ∧ C < rr * s
                · rw [if_pos y]
                  refine hBW A B C y.1 y.2.1 y.2.2 ?_
                  have mA := md s1 hR y.1
                  have mB := md s1 hR y.2.1
                  have mC := md s1 hR y.2.2
                  have q : (A / s + 1) * 3125 ≤ rr * 3125 := Nat.mul_le_mul_right _ mA.2.2.2
                  unfold key6 K6
                  omega
                · rw [if_neg y]; exact hBO A B C hA hB hC y)
              have cM : ∀ c, c < 125 → NM c = PR N1 N2 (rr * s) s c := of_abc (fun A B C hA hB hC => by
                rw [PR_at hA hB hC]
                by_cases y : A < rr * s ∧ B < rr * s ∧ C < rr * s
                · rw [if_pos y]
                  exact hMW A B C y.1 y.2.1 y.2.2 (by omega)
                · rw [if_neg y]; exact hMO A B C hA hB hC y)
              have oP : OKT (rr * s) (PR N1 N2 (rr * s) s) := ⟨by omega, hR, fun c hc => by
                show (if _ then _ else _) ≤ 9
                by_cases y : c / 25 < rr * s ∧ c / 5 % 5 < rr * s ∧ c % 5 < rr * s
                · rw [if_pos y]; exact wm _ (Nat.zero_le _) y.1 _ y.2.1 _ y.2.2
                · rw [if_neg y]; omega⟩
              obtain ⟨IB2, e2, hB2⟩ := B_become (x := t3) (y := 6) (by omega) (by decide) (hB.2.congr cB)
              obtain ⟨IM2, e3, hM2⟩ := M_carry (u := 6) (t := t3) (by decide) (by omega) (hM.2.congr cM)
              have hR1 := (h.frB hL hB.1 rfl).frM (FrM.ofT hM.1)
              refine ⟨nI (rr * s), IB2, IM2, ?_, ?_, hR1.tab hL ht3 oP hB2 hM2⟩
              · rw [eB, bd_ok eb]
                show (if (1 : Int32) = 0 then _ else bd (f_X7_become t3 6 SB) (fun I2 => some (I2 (8 + 6) 0, I2))) = _
                rw [if_neg (by decide), bd_ok e2, hB2.1 (8 + 6) (by simp; omega), hB.2.1]
              · rw [eM, bd_ok em]
                show (if (1 : Nat) = 0 then _ else bd (f_X9_carry 6 (nI t3) SM) (fun I2 => some (nI (rr * s), I2))) = _
                rw [if_neg (by decide), bd_ok (show f_X9_carry 6 (nI t3) SM = some IM2 from e3)]
            · exact absurd (same.mp wb A hA) wm
          · rcases M_t66 (I := IM) M1 M2 o1 o2 hR ht1 ht2 (nI t3) hG with ⟨SM, em, gm, wm⟩ | ⟨SM, em, gm, A, hA, wm⟩
            · exact absurd (same.mpr (fun A hA => wm A (Nat.zero_le _) hA)) wb
            · refine ⟨-3, SB, SM, ?_, ?_, (h.frB hL gb rfl).frM (FrM.ofT gm)⟩
              · rw [eB, bd_ok eb]; rfl
              · rw [eM, bd_ok em]; rfl
        · rw [if_neg (show ¬ nI (rr * s) ≤ 5 from le_nI (b := 5) (by omega) (by decide) hR)] at eB eM
          exact ⟨-3, IB, IM, eB, eM, h⟩
      · refine ⟨-2, IB, IM, ?_, ?_, h⟩
        · unfold f_X8_together
          rw [bd_ok (e_isTable_in ht1), if_neg (by decide), bd_ok (e_isTable_in ht2), if_neg (by decide), bd_ok (e_isTable_out hd), if_pos rfl]
        · unfold f_X9_together
          rw [bd_ok (e_noTable_in ht1), if_pos rfl, bd_ok (e_noTable_in ht2), if_pos rfl, bd_ok (e_noTable_out hd), if_neg (by decide)]
    · refine ⟨-2, IB, IM, ?_, ?_, h⟩
      · unfold f_X8_together
        rw [bd_ok (e_isTable_in ht1), if_neg (by decide), bd_ok (e_isTable_out hb), if_pos rfl]
      · unfold f_X9_together
        rw [bd_ok (e_noTable_in ht1), if_pos rfl, bd_ok (e_noTable_out hb), if_neg (by decide)]
  · refine ⟨-2, IB, IM, ?_, ?_, h⟩
    · unfold f_X8_together
      rw [bd_ok (e_isTable_out ha), if_pos rfl]
    · unfold f_X9_together
      rw [bd_ok (e_noTable_out ha), if_neg (by decide)]
end OT
