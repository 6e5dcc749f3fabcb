/-! TOGETHER -/
theorem exitLoop {σ : Type} (L : Nat → Nat → σ → Option (Nat × σ)) (r : Nat) (Inv : Nat → σ → Prop) (Bad : σ → Prop) (ok : Nat → Prop) (hx : ∀ n s, Inv r s → L (n + 1) r s = some (1, s))
    (hs : ∀ n j s, j < r → Inv j s → (∃ s', L (n + 1) j s = L n (j + 1) s' ∧ Inv (j + 1) s' ∧ ok j) ∨ (∃ s', L (n + 1) j s = some (0, s') ∧ Bad s' ∧ ¬ ok j)) :
    ∀ d j n s, j + d = r → d < n → Inv j s → (∃ s', L n j s = some (1, s') ∧ Inv r s' ∧ ∀ q, j ≤ q → q < r → ok q) ∨ (∃ s', L n j s = some (0, s') ∧ Bad s' ∧ ∃ q, q < r ∧ ¬ ok q) := by
  intro d
  induction d with
  | zero =>
    intro j n s hj hn h
    obtain ⟨m, rfl⟩ : ∃ m, n = m + 1 := ⟨n - 1, by omega⟩
    have e : j = r := by omega
    subst e
    exact Or.inl ⟨s, hx m s h, h, fun q h1 h2 => by omega⟩
  | succ d ih =>
    intro j n s hj hn h
    obtain ⟨m, rfl⟩ : ∃ m, n = m + 1 := ⟨n - 1, by omega⟩
    rcases hs m j s (by omega) h with ⟨s', e, h2, h3⟩ | ⟨s', e, h2, h3⟩
    · rw [e]
      rcases ih (j + 1) m s' (by omega) (by omega) h2 with ⟨s2, a, b, c⟩ | ⟨s2, a, b, c⟩
      · refine Or.inl ⟨s2, a, b, fun q h4 h5 => ?_⟩
        by_cases w : q = j
        · rw [w]; exact h3
        · exact c q (by omega) h5
      · exact Or.inr ⟨s2, a, b, c⟩
    · exact Or.inr ⟨s', e, h2, j, by omega, h3⟩
def K6 (i j k a b c : Nat) : Nat := ((((i * 5 + j) * 5 + k) * 5 + a) * 5 + b) * 5 + c
def key6 (s A B C : Nat) : Nat := K6 (A / s) (B / s) (C / s) (A % s) (B % s) (C % s)
def prd (N1 N2 : Nat → Nat) (s A B C : Nat) : Nat := nn N1 (A / s) (B / s) (C / s) * nn N2 (A % s) (B % s) (C % s)
def GB (N1 N2 : Nat → Nat) (R s : Nat) (I : SI) (K : Nat) (S : SI) : Prop := ∃ N', BT 6 R N' I S ∧ (∀ A B C, A < 5 → B < 5 → C < 5 → key6 s A B C < K → nn N' A B C = prd N1 N2 s A B C) ∧ ∀ A B C, A < 5 → B < 5 → C < 5 → ¬ (A < R ∧ B < R ∧ C < R) → nn N' A B C = 0
def GM (N1 N2 : Nat → Nat) (R s : Nat) (I : SI) (K : Nat) (S : SI) : Prop := ∃ N', MT 6 R N' I S ∧ (∀ A B C, A < 5 → B < 5 → C < 5 → (A * 5 + B) * 5 + C < K → nn N' A B C = prd N1 N2 s A B C) ∧ ∀ A B C, A < 5 → B < 5 → C < 5 → ¬ (A < R ∧ B < R ∧ C < R) → nn N' A B C = 0
theorem nn_setN {N : Nat → Nat} {a b c v A B C : Nat} (hb : b < 5) (hc : c < 5) (hB : B < 5) (hC : C < 5) : nn (setN N (25 * a + 5 * b + c) v) A B C = if A = a ∧ B = b ∧ C = c then v else nn N A B C := by
  show (if 25 * A + 5 * B + C = 25 * a + 5 * b + c then v else N (25 * A + 5 * B + C)) = _
  by_cases h : A = a ∧ B = b ∧ C = c
  · obtain ⟨rfl, rfl, rfl⟩ := h
    rw [if_pos rfl, if_pos ⟨rfl, rfl, rfl⟩]
  · rw [if_neg h, if_neg (fun q => h (by omega))]
    rfl
theorem blk_lt {i a rr s : Nat} (hi : i < rr) (ha : a < s) : i * s + a < rr * s := by
  have : (i + 1) * s ≤ rr * s := Nat.mul_le_mul_right s hi
  rw [Nat.add_mul] at this
  omega
theorem blk_dm {i a s : Nat} (ha : a < s) : (i * s + a) / s = i ∧ (i * s + a) % s = a := by
  rw [Nat.mul_comm]
  exact ⟨by rw [Nat.mul_add_div (by omega), Nat.div_eq_of_lt ha, Nat.add_zero], by rw [Nat.mul_add_mod, Nat.mod_eq_of_lt ha]⟩
section TB
variable {N1 N2 : Nat → Nat} {rr s x1 x2 : Nat} {I : SI}
theorem GB.le {R K K' : Nat} {S : SI} (h : GB N1 N2 R s I K S) (hk : ∀ A B C, A < 5 → B < 5 → C < 5 → key6 s A B C < K' → key6 s A B C < K) : GB N1 N2 R s I K' S := by
  obtain ⟨N', a, b, c⟩ := h
  exact ⟨N', a, fun A B C h1 h2 h3 h4 => b A B C h1 h2 h3 (hk A B C h1 h2 h3 h4), c⟩
theorem md {A s : Nat} (hs : 1 ≤ s) (hA : A < 5) : A % s < s ∧ A % s < 5 ∧ A / s < 5 := ⟨Nat.mod_lt _ hs, Nat.lt_of_le_of_lt (Nat.mod_le _ _) hA, Nat.lt_of_le_of_lt (Nat.div_le_self _ _) hA⟩
theorem B_b27 (h2 : TB I x2 s N2) (o1 : OKT rr N1) (o2 : OKT s N2) (hR : rr * s ≤ 5) (hx2 : x2 < 6) {i j k a b : Nat} (hi : i < rr) (hj : j < rr) (hk : k < rr) (ha : a < s) (hb : b < s) {S : SI} (hS : GB N1 N2 (rr * s) s I (K6 i j k a b 0) S) :
    (∃ S', lp_X7_placeBlock_27 6 x2 (nI (nn N1 i j k)) (nI (i * s)) (nI (j * s)) (nI (k * s)) (nI a) (nI b) FU 0 S = some (1, S') ∧ GB N1 N2 (rr * s) s I (K6 i j k a b s) S' ∧ ∀ c, 0 ≤ c → c < s → nn N1 i j k * nn N2 a b c ≤ 9) ∨ (∃ S', lp_X7_placeBlock_27 6 x2 (nI (nn N1 i j k)) (nI (i * s)) (nI (j * s)) (nI (k * s)) (nI a) (nI b) FU 0 S = some (0, S') ∧ Fr [6, 14] I S' ∧ ∃ c, c < s ∧ ¬ nn N1 i j k * nn N2 a b c ≤ 9) := by
  obtain ⟨r1, r5, r9⟩ := id o1
  obtain ⟨s1, s5, s9⟩ := id o2
  refine exitLoop (fun n c S => lp_X7_placeBlock_27 6 x2 (nI (nn N1 i j k)) (nI (i * s)) (nI (j * s)) (nI (k * s)) (nI a) (nI b) n (nI c) S) s (fun c S => GB N1 N2 (rr * s) s I (K6 i j k a b c) S) (fun S => Fr [6, 14] I S) (fun c => nn N1 i j k * nn N2 a b c ≤ 9) (fun n S hS => ?_) (fun n c S hc hS => ?_) s 0 FU S (Nat.zero_add s) (FUlt s5) hS
  · obtain ⟨N', hB, _, _⟩ := hS
    have t2 := h2.fr hB.1 (by simp; omega) (by simp; omega)
    show lp_X7_placeBlock_27 _ _ _ _ _ _ _ _ (n + 1) (nI s) S = _
    rw [lp_X7_placeBlock_27.eq_2, t2.1, if_pos (nI_le (Nat.le_refl _) (by omega))]
  · obtain ⟨N', hB, hW, hO⟩ := hS
    have t2 := h2.fr hB.1 (by simp; omega) (by simp; omega)
    have b1 := o1.nn (i := i) (j := j) (k := k) (by omega) (by omega) (by omega)
    have b2 := o2.nn (i := a) (j := b) (k := c) (by omega) (by omega) (by omega)
    have b3 : nn N1 i j k * nn N2 a b c ≤ 9 * 9 := Nat.mul_le_mul b1 b2
    have lA := blk_lt hi ha
    have lB := blk_lt hj hb
    have lC := blk_lt hk hc
    have e1 := B_num t2 (i := a) (j := b) (k := c) (by omega) (by omega) (by omega)
    by_cases w : nn N1 i j k * nn N2 a b c ≤ 9
    · left
      obtain ⟨S2, e2, hB2⟩ := B_step hB (i := i * s + a) (j := j * s + b) (k := k * s + c) (nn N1 i j k * nn N2 a b c) (by omega)
      refine ⟨S2, ?_, ⟨_, hB2, fun A B C hA hB hC hk2 => ?_, fun A B C hA hB hC hk2 => ?_⟩, w⟩
      · show lp_X7_placeBlock_27 _ _ _ _ _ _ _ _ (n + 1) (nI c) S = lp_X7_placeBlock_27 _ _ _ _ _ _ _ _ n (nI (c + 1)) S2
        rw [lp_X7_placeBlock_27.eq_2, t2.1, if_neg (le_nI (by omega) (by omega) (by omega)), bd_ok e1, pk_mul, if_pos (show nI (nn N1 i j k * nn N2 a b c) ≤ 9 from nI_le (b := 9) w (by omega)), nI_add, nI_add, nI_add, bd_ok e2, show nI c + 1 = nI (c + 1) from nI_1 c]
      · rw [nn_setN (by omega) (by omega) hB hC]
        by_cases y : A = i * s + a ∧ B = j * s + b ∧ C = k * s + c
        · rw [if_pos y]
          obtain ⟨rfl, rfl, rfl⟩ := y
          unfold prd
          rw [(blk_dm ha).1, (blk_dm ha).2, (blk_dm hb).1, (blk_dm hb).2, (blk_dm hc).1, (blk_dm hc).2]
        · rw [if_neg y]
          refine hW A B C hA hB hC ?_
          have mA := md s1 hA
          have mB := md s1 hB
          have mC := md s1 hC
          have dA := Nat.div_add_mod A s
          have dB := Nat.div_add_mod B s
          have dC := Nat.div_add_mod C s
          unfold key6 K6 at hk2 ⊢
          refine Nat.lt_of_le_of_ne (by omega) (fun q => y ?_)
          have q1 : A / s = i := by omega
          have q2 : B / s = j := by omega
          have q3 : C / s = k := by omega
          rw [q1] at dA
          rw [q2] at dB
          rw [q3] at dC
          rw [Nat.mul_comm] at dA dB dC
          refine ⟨by omega, by omega, by omega⟩
      · rw [nn_setN (by omega) (by omega) hB hC, if_neg (fun y => hk2 ⟨by omega, by omega, by omega⟩)]
        exact hO A B C hA hB hC hk2
    · right
      refine ⟨S, ?_, hB.1, w⟩
      show lp_X7_placeBlock_27 _ _ _ _ _ _ _ _ (n + 1) (nI c) S = _
      rw [lp_X7_placeBlock_27.eq_2, t2.1, if_neg (le_nI (by omega) (by omega) (by omega)), bd_ok e1, pk_mul, if_neg (show ¬ nI (nn N1 i j k * nn N2 a b c) ≤ 9 from le_nI (b := 9) (by omega) (by omega) (by omega))]
end TB
