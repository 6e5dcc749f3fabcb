/-! CLOSED sets, THE CORE, GRADES -/
noncomputable def bP (P : Prop) : Nat := @ite _ P (Classical.propDecidable P) 1 0
theorem bP_c (P : Prop) : (P ∧ bP P = 1) ∨ (¬ P ∧ bP P = 0) := by
  unfold bP
  by_cases h : P
  · exact Or.inl ⟨h, if_pos h⟩
  · exact Or.inr ⟨h, if_neg h⟩
noncomputable def ofP (P : Nat → Prop) : Nat := bP (P 0) + 2 * bP (P 1) + 4 * bP (P 2) + 8 * bP (P 3) + 16 * bP (P 4)
theorem ofP_bit (P : Nat → Prop) : ofP P < 32 ∧ ∀ b, b < 5 → ((ofP P).testBit b = true ↔ P b) := by
  unfold ofP
  rcases bP_c (P 0) with ⟨h0, e0⟩ | ⟨h0, e0⟩ <;> rcases bP_c (P 1) with ⟨h1, e1⟩ | ⟨h1, e1⟩ <;> rcases bP_c (P 2) with ⟨h2, e2⟩ | ⟨h2, e2⟩ <;> rcases bP_c (P 3) with ⟨h3, e3⟩ | ⟨h3, e3⟩ <;> rcases bP_c (P 4) with ⟨h4, e4⟩ | ⟨h4, e4⟩ <;> rw [e0, e1, e2, e3, e4] <;> refine ⟨by decide, fun b hb => ?_⟩ <;> rcases (show b = 0 ∨ b = 1 ∨ b = 2 ∨ b = 3 ∨ b = 4 by omega) with rfl | rfl | rfl | rfl | rfl <;> first | exact iff_of_true (by decide) (by assumption) | exact iff_of_false (by decide) (by assumption)
theorem ofP_acc (P : Nat → Prop) : Acc (nI (ofP P)) P := ⟨_, (ofP_bit P).1, rfl, (ofP_bit P).2⟩
theorem Acc.val {a : Int32} {P : Nat → Prop} (h : Acc a P) : a = nI (ofP P) := h.eq (ofP_acc P) (fun _ _ => Iff.rfl)
noncomputable def gv (N : Nat → Nat) (r : Nat) (p : Nat → Nat) (s : Nat) : Nat := ofP (Gr N r p (fun b => s.testBit b = true))
noncomputable def itG (N : Nat → Nat) (r : Nat) (p : Nat → Nat) : Nat → Nat → Nat
  | 0, s => s
  | k + 1, s => itG N r p k (gv N r p s)
def popc (s : Nat) : Nat := s % 2 + s / 2 % 2 + s / 4 % 2 + s / 8 % 2 + s / 16 % 2
theorem pop_lt : ∀ s, s < 32 → ∀ s', s' < 32 → s ||| s' = s' → s ≠ s' → popc s < popc s' := by decide +kernel
theorem pop_le : ∀ r, r < 6 → ∀ s, s < 2 ^ r → popc s ≤ r := by decide +kernel
theorem pop_le5 {s : Nat} (h : s < 32) : popc s ≤ 5 := pop_le 5 (by decide) s h
theorem low_of : ∀ r, r < 6 → ∀ v, v < 32 → (∀ b, b < 5 → r ≤ b → v.testBit b = false) → v < 2 ^ r := by decide +kernel
theorem pop_pos : ∀ s, s < 32 → s.testBit 0 = true → 1 ≤ popc s := by decide +kernel
theorem two_le {r : Nat} (h : r ≤ 5) : 2 ^ r ≤ 32 := Nat.pow_le_pow_right (n := 2) (by decide) h
theorem hi_zero {r s b : Nat} (h : s < 2 ^ r) (hb : r ≤ b) : s.testBit b = false := Nat.testBit_lt_two_pow (Nat.lt_of_lt_of_le h (Nat.pow_le_pow_right (n := 2) (by decide) hb))
section GV
variable {N : Nat → Nat} {r : Nat} {p : Nat → Nat}
theorem gv_lt (h5 : r ≤ 5) (hp : ∀ i, i < r → p i < r) {s : Nat} (hs : s < 2 ^ r) : gv N r p s < 2 ^ r := by
  obtain ⟨h1, h2⟩ := ofP_bit (Gr N r p (fun b => s.testBit b = true))
  refine low_of r (by omega) _ h1 (fun b hb hr => ?_)
  cases q : (ofP (Gr N r p (fun b => s.testBit b = true))).testBit b with
  | false => exact q
  | true =>
    rcases (h2 b hb).mp q with z | ⟨i, hi, _, z | z⟩
    · have z : s.testBit b = true := z
      rw [hi_zero hs hr] at z; cases z
    · have := hp i hi; omega
    · have := z.1; omega
theorem gv_sub {s : Nat} (hs : s < 32) : s ||| gv N r p s = gv N r p s := by
  obtain ⟨h1, h2⟩ := ofP_bit (Gr N r p (fun b => s.testBit b = true))
  refine bt_eq (Nat.or_lt_two_pow (n := 5) hs h1) h1 (fun i hi => ?_)
  rw [Nat.testBit_or]
  cases q : s.testBit i with
  | false => rw [Bool.false_or]
  | true => rw [Bool.true_or]; exact ((h2 i hi).mpr (Or.inl q)).symm
theorem itG_lt (h5 : r ≤ 5) (hp : ∀ i, i < r → p i < r) : ∀ k s, s < 2 ^ r → itG N r p k s < 2 ^ r := by
  intro k
  induction k with
  | zero => intro s h; exact h
  | succ k ih => intro s h; exact ih _ (gv_lt h5 hp h)
theorem itG_fix {s : Nat} (h : gv N r p s = s) : ∀ k, itG N r p k s = s := by
  intro k
  induction k with
  | zero => rfl
  | succ k ih => rw [itG, h]; exact ih
theorem itG_add : ∀ a b s, itG N r p (a + b) s = itG N r p b (itG N r p a s) := by
  intro a
  induction a with
  | zero => intro b s; rw [Nat.zero_add]; rfl
  | succ a ih => intro b s; rw [show a + 1 + b = (a + b) + 1 by omega, itG, ih, itG]
theorem itG_grows (h5 : r ≤ 5) (hp : ∀ i, i < r → p i < r) : ∀ k s, s < 2 ^ r → gv N r p (itG N r p k s) = itG N r p k s ∨ popc s + k ≤ popc (itG N r p k s) := by
  intro k
  induction k with
  | zero => intro s _; exact Or.inr (Nat.le_refl _)
  | succ k ih =>
    intro s hs
    have hs32 : s < 32 := Nat.lt_of_lt_of_le hs (two_le h5)
    have hg := gv_lt (N := N) h5 hp hs
    have hg32 : gv N r p s < 32 := Nat.lt_of_lt_of_le hg (two_le h5)
    by_cases e : gv N r p s = s
    · refine Or.inl ?_
      rw [itG_fix e (k + 1)]
      exact e
    · rcases ih _ hg with q | q
      · exact Or.inl q
      · refine Or.inr ?_
        have := pop_lt s hs32 _ hg32 (gv_sub hs32) (fun z => e z.symm)
        rw [itG]
        omega
theorem itG_r (h5 : r ≤ 5) (hp : ∀ i, i < r → p i < r) {s : Nat} (hs : s < 2 ^ r) (h0 : s.testBit 0 = true) : gv N r p (itG N r p r s) = itG N r p r s := by
  rcases itG_grows (N := N) h5 hp r s hs with q | q
  · exact q
  · have a := pop_le r (by omega) _ (itG_lt (N := N) h5 hp r s hs)
    have b := pop_pos s (Nat.lt_of_lt_of_le hs (two_le h5)) h0
    omega
theorem itG_one (h5 : r ≤ 5) (hp : ∀ i, i < r → p i < r) {s : Nat} (hs : s < 2 ^ r) (h0 : s.testBit 0 = true) {k : Nat} (hk : gv N r p (itG N r p k s) = itG N r p k s) : itG N r p k s = itG N r p r s := by
  have hr := itG_r (N := N) h5 hp hs h0
  by_cases e : k ≤ r
  · obtain ⟨d, rfl⟩ : ∃ d, r = k + d := ⟨r - k, by omega⟩
    rw [itG_add, itG_fix hk d]
  · obtain ⟨d, rfl⟩ : ∃ d, k = r + d := ⟨k - r, by omega⟩
    rw [itG_add, itG_fix hr d]
theorem itG_sup (h5 : r ≤ 5) (hp : ∀ i, i < r → p i < r) : ∀ k s, s < 2 ^ r → s ||| itG N r p k s = itG N r p k s := by
  intro k
  induction k with
  | zero => intro s _; exact Nat.or_self s
  | succ k ih =>
    intro s hs
    have a := ih _ (gv_lt (N := N) h5 hp hs)
    have b := gv_sub (N := N) (r := r) (p := p) (Nat.lt_of_lt_of_le hs (two_le h5))
    rw [itG, ← a, ← Nat.or_assoc, b]
noncomputable def clo (N : Nat → Nat) (r : Nat) (p : Nat → Nat) (s : Nat) : Nat := itG N r p r (s ||| 1)
end GV
theorem or1 : ∀ r, r < 6 → 1 ≤ r → ∀ s, s < 2 ^ r → s ||| 1 < 2 ^ r ∧ (s ||| 1).testBit 0 = true := by decide +kernel
theorem or1i {s : Nat} (h : s < 32) : nI s ||| 1 = nI (s ||| 1) := bt_or s h 1 (by decide)
theorem B_grow1 {I : SI} {x r : Nat} {N : Nat → Nat} (h : TB I x r N) (ho : OKT r N) {p : Nat → Nat} (hp : ∀ i, i < r → I 17 i = nI (p i) ∧ p i < r) {s : Nat} (hs : s < 32) : f_X5_grow x (nI s) I = some (nI (gv N r p s)) := by
  obtain ⟨a, e, q⟩ := B_grow h ho hp (Acc.self hs)
  rw [e, q.val]
  rfl
theorem M_pass1 {I : SI} {t r : Nat} {N : Nat → Nat} (h : TM I t r N) (ht : t < 7) (ho : OKT r N) {p : Nat → Nat} (hp : ∀ i, i < r → I 3 i = nI (p i) ∧ p i < r) {s : Nat} (hs : s < 32) : lp_X9_close_19 (nI t) (nI s) I FU (nI s) 0 = some (nI (gv N r p s)) := by
  obtain ⟨a, e, q⟩ := M_pass h ht ho hp (Acc.self hs)
  rw [e, q.val]
  rfl
theorem B_clo {I : SI} {x r : Nat} {N : Nat → Nat} (h : TB I x r N) (ho : OKT r N) {p : Nat → Nat} (hp : ∀ i, i < r → I 17 i = nI (p i) ∧ p i < r) {s : Nat} (hs : s < 2 ^ r) : f_X5_closure x (nI s) I = some (nI (clo N r p s)) := by
  obtain ⟨h1, h5, h9⟩ := id ho
  have hp2 : ∀ i, i < r → p i < r := fun i hi => (hp i hi).2
  obtain ⟨q1, q2⟩ := or1 r (by omega) h1 s hs
  have e : lp_X5_closure_7 x I FU (nI (s ||| 1)) 0 = some (nI (itG N r p r (s ||| 1))) := by
    have key : ∀ d j n v, j + d = r → d < n → v < 2 ^ r → lp_X5_closure_7 x I n (nI v) (nI j) = some (nI (itG N r p d v)) := by
      intro d
      induction d with
      | zero =>
        intro j n v hj hn hv
        obtain ⟨m, rfl⟩ : ∃ m, n = m + 1 := ⟨n - 1, by omega⟩
        rw [lp_X5_closure_7.eq_2, h.1, if_pos (nI_le (by omega) (by omega))]
        rfl
      | succ d ih =>
        intro j n v hj hn hv
        obtain ⟨m, rfl⟩ : ∃ m, n = m + 1 := ⟨n - 1, by omega⟩
        rw [lp_X5_closure_7.eq_2, h.1, if_neg (le_nI (by omega) (by omega) (by omega)), bd_ok (B_grow1 h ho hp (Nat.lt_of_lt_of_le hv (two_le h5))), show nI j + 1 = nI (j + 1) from nI_1 j]
        exact ih (j + 1) m _ (by omega) (by omega) (gv_lt h5 hp2 hv)
    exact key r 0 FU _ (Nat.zero_add r) (FUlt h5) q1
  unfold f_X5_closure
  rw [or1i (Nat.lt_of_lt_of_le hs (two_le h5)), bd_ok e]
  rfl
theorem M_clo {I : SI} {t r : Nat} {N : Nat → Nat} (h : TM I t r N) (ht : t < 7) (ho : OKT r N) {p : Nat → Nat} (hp : ∀ i, i < r → I 3 i = nI (p i) ∧ p i < r) {s : Nat} (hs : s < 2 ^ r) : f_X9_close (nI t) (nI s) I = some (nI (clo N r p s)) := by
  obtain ⟨h1, h5, h9⟩ := id ho
  have hp2 : ∀ i, i < r → p i < r := fun i hi => (hp i hi).2
  obtain ⟨q1, q2⟩ := or1 r (by omega) h1 s hs
  have key : ∀ d v w n, v < 2 ^ r → w < 32 → v ≠ w → 6 ≤ popc v + d → d + 1 < n → ∃ k, lp_X9_close_7 (nI t) I n (nI v) (nI w) = some (nI (itG N r p k v)) ∧ gv N r p (itG N r p k v) = itG N r p k v := by
    intro d
    induction d with
    | zero =>
      intro v w n hv hw hne hd hn
      have := pop_le5 (Nat.lt_of_lt_of_le hv (two_le h5))
      omega
    | succ d ih =>
      intro v w n hv hw hne hd hn
      obtain ⟨m, rfl⟩ : ∃ m, n = m + 1 := ⟨n - 1, by omega⟩
      have hv32 := Nat.lt_of_lt_of_le hv (two_le h5)
      have hg := gv_lt (N := N) h5 hp2 hv
      rw [lp_X9_close_7.eq_2, if_neg (eq_nI (by omega) (by omega) hne), bd_ok (M_pass1 h ht ho hp hv32)]
      by_cases e : gv N r p v = v
      · refine ⟨0, ?_, e⟩
        obtain ⟨m, rfl⟩ : ∃ y, m = y + 1 := ⟨m - 1, by omega⟩
        rw [e, lp_X9_close_7.eq_2, if_pos rfl]
        rfl
      · have hp3 := pop_lt v hv32 _ (Nat.lt_of_lt_of_le hg (two_le h5)) (gv_sub hv32) (fun z => e z.symm)
        obtain ⟨k, a, b⟩ := ih (gv N r p v) v m hg hv32 e (by omega) (by omega)
        exact ⟨k + 1, a, b⟩
  have hne : s ||| 1 ≠ 0 := fun z => by rw [z] at q2; simp at q2
  obtain ⟨k, a, b⟩ := key 6 (s ||| 1) 0 FU q1 (by decide) hne (by omega) (by decide)
  unfold f_X9_close
  rw [or1i (Nat.lt_of_lt_of_le hs (two_le h5)), bd_ok (show lp_X9_close_7 (nI t) I FU (nI (s ||| 1)) 0 = _ from a), itG_one h5 hp2 q1 q2 b]
  rfl
def Co (N : Nat → Nat) (r : Nat) (p : Nat → Nat) (b : Nat) : Prop := b < r ∧ ∃ i, i < r ∧ 0 < nn N i (p i) b
noncomputable def coS (N : Nat → Nat) (r : Nat) (p : Nat → Nat) : Nat := clo N r p (ofP (Co N r p))
theorem co_lt {N : Nat → Nat} {r : Nat} {p : Nat → Nat} (h5 : r ≤ 5) : ofP (Co N r p) < 2 ^ r := by
  obtain ⟨h1, h2⟩ := ofP_bit (Co N r p)
  refine low_of r (by omega) _ h1 (fun b hb hr => ?_)
  cases q : (ofP (Co N r p)).testBit b with
  | false => rfl
  | true => have := ((h2 b hb).mp q).1; omega
theorem B_core {I : SI} {x r : Nat} {N : Nat → Nat} (h : TB I x r N) (ho : OKT r N) {p : Nat → Nat} (hp : ∀ i, i < r → I 17 i = nI (p i) ∧ p i < r) : f_X5_innermost x I = some (nI (coS N r p)) := by
  obtain ⟨h1, h5, h9⟩ := id ho
  have e : ∃ o, lp_X5_innermost_4 x I FU 0 (nI 0) = some o ∧ Acc o (Co N r p) := by
    refine exLoop (fun m i v => lp_X5_innermost_4 x I m v (nI i)) r (fun i v => Acc v (fun b => b < r ∧ ∃ q, q < i ∧ 0 < nn N q (p q) b)) _ (fun m v q => ?_) (fun m i v hi q => ?_) r 0 FU _ (Nat.zero_add r) (FUlt h5) (Acc.zero.congr (fun b _ => ⟨fun z => z.elim, fun z => ex_lt_zero.mp z.2⟩))
    · refine ⟨v, ?_, q⟩
      show lp_X5_innermost_4 x I (m + 1) v (nI r) = _
      rw [lp_X5_innermost_4.eq_2, h.1, if_pos (nI_le (Nat.le_refl _) (by omega))]
    · obtain ⟨p1, p2⟩ := hp i hi
      obtain ⟨a, e, ha⟩ := B_fwa h ho hi (Acc.bit (k := p i) (by omega))
      refine ⟨v ||| a, ?_, (q.or ha).congr (fun b _ => ?_)⟩
      · show lp_X5_innermost_4 x I (m + 1) v (nI i) = _
        rw [lp_X5_innermost_4.eq_2, h.1, if_neg (le_nI (by omega) (by omega) (by omega)), gd_in (by omega) (by decide), cl (by omega), p1, bd_ok e, show nI i + 1 = nI (i + 1) from nI_1 i]
      · rw [ex_lt_succ]
        constructor
        · rintro (⟨w1, w2⟩ | ⟨w1, j, w2, rfl, w3⟩)
          · exact ⟨w1, Or.inl w2⟩
          · exact ⟨w1, Or.inr w3⟩
        · rintro ⟨w1, w2 | w2⟩
          · exact Or.inl ⟨w1, w2⟩
          · exact Or.inr ⟨w1, p i, p2, rfl, w2⟩
  obtain ⟨o, e, q⟩ := e
  unfold f_X5_innermost
  rw [bd_ok (show lp_X5_innermost_4 x I FU 0 0 = some o from e), q.val, bd_ok (B_clo h ho hp (co_lt h5))]
  rfl
theorem M_core {I : SI} {t r : Nat} {N : Nat → Nat} (h : TM I t r N) (ht : t < 7) (ho : OKT r N) {p : Nat → Nat} (hp : ∀ i, i < r → I 3 i = nI (p i) ∧ p i < r) : f_X9_coreOf (nI t) I = some (nI (coS N r p)) := by
  obtain ⟨h1, h5, h9⟩ := id ho
  have e1 : ∀ i, i < r → ∀ (a : Int32) P, Acc a P → ∃ o, lp_X9_coreOf_17 (nI t) (nI i) I FU a (nI 0) = some o ∧ Acc o (fun b => P b ∨ (b < r ∧ 0 < nn N i (p i) b)) := by
    intro i hi a P ha
    obtain ⟨p1, p2⟩ := hp i hi
    refine exLoop (fun m k v => lp_X9_coreOf_17 (nI t) (nI i) I m v (nI k)) r (fun k v => Acc v (fun b => P b ∨ (b < k ∧ 0 < nn N i (p i) b))) _ (fun m v q => ?_) (fun m k v hk q => ?_) r 0 FU _ (Nat.zero_add r) (FUlt h5) (ha.congr (fun b _ => ⟨Or.inl, fun z => z.elim id (fun y => by omega)⟩))
    · refine ⟨v, ?_, q⟩
      show lp_X9_coreOf_17 (nI t) (nI i) I (m + 1) v (nI r) = _
      rw [lp_X9_coreOf_17.eq_2, gd_in ht (by decide), cl (by omega), h.1, if_pos (nI_le (Nat.le_refl _) (by omega))]
    · have e := M_num h ht (i := i) (j := p i) (k := k) (by omega) (by omega) (by omega)
      have b9 := ho.nn (i := i) (j := p i) (k := k) (by omega) (by omega) (by omega)
      by_cases hq : 0 < nn N i (p i) k
      · refine ⟨v ||| ((1 : Int32) <<< (nI k &&& 31)), ?_, (q.or (Acc.bit (by omega))).congr (fun b _ => ?_)⟩
        · show lp_X9_coreOf_17 (nI t) (nI i) I (m + 1) v (nI k) = _
          rw [lp_X9_coreOf_17.eq_2, gd_in ht (by decide), cl (show t < 2 ^ 31 by omega), h.1, if_neg (le_nI (by omega) (by omega) (by omega)), gd_in (show i < 5 by omega) (by decide), cl (show i < 2 ^ 31 by omega), p1, bd_ok e, if_neg (nI_nle hq (by omega)), show nI k + 1 = nI (k + 1) from nI_1 k]
        · constructor
          · rintro ((w | ⟨w1, w2⟩) | w)
            · exact Or.inl w
            · exact Or.inr ⟨by omega, w2⟩
            · rw [w]; exact Or.inr ⟨by omega, hq⟩
          · rintro (w | ⟨w1, w2⟩)
            · exact Or.inl (Or.inl w)
            · by_cases z : b = k
              · exact Or.inr z
              · exact Or.inl (Or.inr ⟨by omega, w2⟩)
      · refine ⟨v, ?_, q.congr (fun b _ => ?_)⟩
        · show lp_X9_coreOf_17 (nI t) (nI i) I (m + 1) v (nI k) = _
          rw [lp_X9_coreOf_17.eq_2, gd_in ht (by decide), cl (show t < 2 ^ 31 by omega), h.1, if_neg (le_nI (by omega) (by omega) (by omega)), gd_in (show i < 5 by omega) (by decide), cl (show i < 2 ^ 31 by omega), p1, bd_ok e, if_pos (show nI (nn N i (p i) k) ≤ 0 by rw [show nn N i (p i) k = 0 by omega]; decide), or_zero32 q, show nI k + 1 = nI (k + 1) from nI_1 k]
        · constructor
          · rintro (w | ⟨w1, w2⟩)
            · exact Or.inl w
            · exact Or.inr ⟨by omega, w2⟩
          · rintro (w | ⟨w1, w2⟩)
            · exact Or.inl w
            · by_cases z : b = k
              · rw [z] at w2; exact absurd w2 hq
              · exact Or.inr ⟨by omega, w2⟩
  have e : ∃ o, lp_X9_coreOf_4 (nI t) I FU 0 (nI 0) = some o ∧ Acc o (Co N r p) := by
    refine exLoop (fun m i v => lp_X9_coreOf_4 (nI t) I m v (nI i)) r (fun i v => Acc v (fun b => b < r ∧ ∃ q, q < i ∧ 0 < nn N q (p q) b)) _ (fun m v q => ?_) (fun m i v hi q => ?_) r 0 FU _ (Nat.zero_add r) (FUlt h5) (Acc.zero.congr (fun b _ => ⟨fun z => z.elim, fun z => ex_lt_zero.mp z.2⟩))
    · refine ⟨v, ?_, q⟩
      show lp_X9_coreOf_4 (nI t) I (m + 1) v (nI r) = _
      rw [lp_X9_coreOf_4.eq_2, gd_in ht (by decide), cl (by omega), h.1, if_pos (nI_le (Nat.le_refl _) (by omega))]
    · obtain ⟨a, e, ha⟩ := e1 i hi v _ q
      refine ⟨a, ?_, ha.congr (fun b _ => ?_)⟩
      · show lp_X9_coreOf_4 (nI t) I (m + 1) v (nI i) = _
        rw [lp_X9_coreOf_4.eq_2, gd_in ht (by decide), cl (by omega), h.1, if_neg (le_nI (by omega) (by omega) (by omega)), bd_ok (show lp_X9_coreOf_17 (nI t) (nI i) I FU v 0 = some a from e), show nI i + 1 = nI (i + 1) from nI_1 i]
      · rw [ex_lt_succ]
        constructor
        · rintro (⟨w1, w2⟩ | ⟨w1, w2⟩)
          · exact ⟨w1, Or.inl w2⟩
          · exact ⟨w1, Or.inr w2⟩
        · rintro ⟨w1, w2 | w2⟩
          · exact Or.inl ⟨w1, w2⟩
          · exact Or.inr ⟨w1, w2⟩
  obtain ⟨o, e, q⟩ := e
  unfold f_X9_coreOf
  rw [bd_ok (show lp_X9_coreOf_4 (nI t) I FU 0 0 = some o from e), q.val, bd_ok (M_clo h ht ho hp (co_lt h5))]
  rfl
