/-! MAPS to remainders -/
def dgm (q r x : Nat) : Nat → Nat := fun i => if i = 0 then 1 else x / q ^ (r - 1 - i) % q
def dmI (N : Nat → Nat) (r : Nat) (u : Nat → Nat) (i j : Nat) : Int := (u i : Int) * u j - sm (fun k => (nn N i j k : Int) * u k) r
def OKm (N : Nat → Nat) (r q x : Nat) : Prop := ∀ i, i < r → ∀ j, j < r → (q : Int) ∣ dmI N r (dgm q r x) i j
theorem dgm_lt {q r x i : Nat} (hq : 2 ≤ q) : dgm q r x i < q := by
  unfold dgm
  by_cases h : i = 0
  · rw [if_pos h]; omega
  · rw [if_neg h]; exact Nat.mod_lt _ (by omega)
theorem mulb {a b A B : Nat} (ha : a ≤ A) (hb : b ≤ B) : (a : Int) * b ≤ ((A * B : Nat) : Int) ∧ 0 ≤ (a : Int) * b := by
  have h : a * b ≤ A * B := Nat.mul_le_mul ha hb
  rw [← Int.natCast_mul]
  omega
theorem smp_le {N : Nat → Nat} {r : Nat} (ho : OKT r N) {u : Nat → Nat} (hu : ∀ i, i < r → u i ≤ 12) {i j : Nat} (hi : i < r) (hj : j < r) : ∀ z, z ≤ r → 0 ≤ sm (fun k => (nn N i j k : Int) * u k) z ∧ sm (fun k => (nn N i j k : Int) * u k) z ≤ 108 * z := by
  obtain ⟨h1, h5, h9⟩ := id ho
  intro z
  induction z with
  | zero => intro _; exact ⟨Int.le_refl _, Int.le_refl _⟩
  | succ z ih =>
    intro hz
    have a := ih (by omega)
    have b := mulb (ho.nn (i := i) (j := j) (k := z) (by omega) (by omega) (by omega)) (hu z (by omega))
    rw [sm]
    have e : ((z + 1 : Nat) : Int) = z + 1 := by omega
    rw [e]
    omega
theorem dmI_le {N : Nat → Nat} {r : Nat} (ho : OKT r N) {u : Nat → Nat} (hu : ∀ i, i < r → u i ≤ 12) {i j : Nat} (hi : i < r) (hj : j < r) : -600 ≤ dmI N r u i j ∧ dmI N r u i j ≤ 600 := by
  have h5 := ho.2.1
  have a := smp_le ho hu hi hj r (Nat.le_refl _)
  have b := mulb (hu i hi) (hu j hj)
  unfold dmI
  omega
theorem rem_iff {a : Int} {q : Nat} (h1 : -1000 ≤ a) (h2 : a ≤ 1000) (hq : 2 ≤ q) (hq2 : q ≤ 13) : iI a - iI a / nI q * nI q = 0 ↔ (q : Int) ∣ a := by
  have hd : iI a / nI q = iI (a.tdiv q) := by
    have hb : -1000 ≤ a.tdiv q ∧ a.tdiv q ≤ 1000 := by
      have : (a.tdiv q).natAbs ≤ a.natAbs := by rw [Int.natAbs_tdiv]; exact Nat.div_le_self _ _
      omega
    apply Int32.toInt_inj.mp
    rw [Int32.toInt_div, iI_toInt (by omega) (by omega), nI_toInt (by omega), iI_toInt (by omega) (by omega)]
    exact Int.bmod_eq_of_le (by omega) (by omega)
  rw [hd, nI_iI q, iI_mul, iI_sub]
  have hm : a - a.tdiv q * q = a.tmod q := by rw [Int.tmod_def, Int.mul_comm]
  have hb2 : -1000 ≤ a.tmod q ∧ a.tmod q ≤ 1000 := by
    have : (a.tmod q).natAbs ≤ a.natAbs := by rw [Int.natAbs_tmod]; exact Nat.mod_le _ _
    omega
  rw [hm, show (0 : Int32) = iI 0 from rfl, iI_inj (by omega) (by omega) (by omega) (by omega)]
  exact Int.dvd_iff_tmod_eq_zero.symm
theorem lpsum {N : Nat → Nat} {r : Nat} {u : Nat → Nat} {i j z : Nat} : iI ((u i : Int) * u j - sm (fun k => (nn N i j k : Int) * u k) z) - nI (nn N i j z) * nI (u z) = iI ((u i : Int) * u j - sm (fun k => (nn N i j k : Int) * u k) (z + 1)) := by
  rw [nI_iI (nn N i j z), nI_iI (u z), iI_mul, iI_sub, sm]
  congr 1
  omega
/-- the last KIND of a product: the greatest of i and of those in it -/
def lst (N : Nat → Nat) (i j : Nat) : Nat → Nat
  | 0 => i
  | k + 1 => if 0 < nn N i j k then (if lst N i j k < k then k else lst N i j k) else lst N i j k
theorem lst_ge (N : Nat → Nat) (i j : Nat) : ∀ z, i ≤ lst N i j z ∧ (∀ k, k < z → 0 < nn N i j k → k ≤ lst N i j z) ∧ ∀ r, i < r → z ≤ r → lst N i j z < r := by
  intro z
  induction z with
  | zero => exact ⟨Nat.le_refl _, fun k hk => by omega, fun r h _ => h⟩
  | succ z ih =>
    obtain ⟨a, b, c⟩ := ih
    rw [lst]
    by_cases h : 0 < nn N i j z
    · rw [if_pos h]
      by_cases h2 : lst N i j z < z
      · rw [if_pos h2]
        refine ⟨by omega, fun k hk hp => by omega, fun r h3 h4 => by omega⟩
      · rw [if_neg h2]
        refine ⟨a, fun k hk hp => ?_, fun r h3 h4 => c r h3 (by omega)⟩
        by_cases e : k = z
        · omega
        · exact b k (by omega) hp
    · rw [if_neg h]
      refine ⟨a, fun k hk hp => ?_, fun r h3 h4 => c r h3 (by omega)⟩
      by_cases e : k = z
      · rw [e] at hp; exact absurd hp h
      · exact b k (by omega) hp
theorem B_lob_in {I : SI} {x r q : Nat} {N : Nat → Nat} (h : TB I x r N) (ho : OKT r N) {u : Nat → Nat} (hu : ∀ i, i < r → I 28 i = nI (u i) ∧ u i ≤ 12) {i j : Nat} (hi : i < r) (hj : j < r) : lp_X4_lastOfBroken_41 x (nI q) (nI i) (nI j) I FU (nI (u i) * nI (u j)) (nI i) 0 = some (iI (dmI N r u i j), nI (lst N i j r)) := by
  obtain ⟨h1, h5, h9⟩ := id ho
  have e : lp_X4_lastOfBroken_41 x (nI q) (nI i) (nI j) I FU (iI ((u i : Int) * u j - sm (fun k => (nn N i j k : Int) * u k) 0)) (nI (lst N i j 0)) (nI 0) = some (iI (dmI N r u i j), nI (lst N i j r)) := by
    refine upLoop (fun m k => lp_X4_lastOfBroken_41 x (nI q) (nI i) (nI j) I m (iI ((u i : Int) * u j - sm (fun k => (nn N i j k : Int) * u k) k)) (nI (lst N i j k)) (nI k)) r _ (fun m => ?_) (fun m k hk => ?_) r 0 FU (Nat.zero_add r) (FUlt h5)
    · show lp_X4_lastOfBroken_41 x (nI q) (nI i) (nI j) I (m + 1) _ _ (nI r) = _
      rw [lp_X4_lastOfBroken_41.eq_2, h.1, if_pos (nI_le (Nat.le_refl _) (by omega))]
      rfl
    · have e := B_num h (i := i) (j := j) (k := k) (by omega) (by omega) (by omega)
      have b9 := ho.nn (i := i) (j := j) (k := k) (by omega) (by omega) (by omega)
      have hl := (lst_ge N i j k).2.2 r hi (by omega)
      show lp_X4_lastOfBroken_41 x (nI q) (nI i) (nI j) I (m + 1) (iI _) (nI (lst N i j k)) (nI k) = lp_X4_lastOfBroken_41 x (nI q) (nI i) (nI j) I m (iI _) (nI (lst N i j (k + 1))) (nI (k + 1))
      rw [lp_X4_lastOfBroken_41.eq_2, h.1, if_neg (le_nI (by omega) (by omega) (by omega)), bd_ok e, gd_in (show k < 5 by omega) (by decide), cl (by omega), (hu k hk).1, lpsum (r := r), show nI k + 1 = nI (k + 1) from nI_1 k, lst]
      by_cases w : 0 < nn N i j k
      · rw [if_neg (nI_nle w (by omega)), if_pos w]
        by_cases y : lst N i j k < k
        · rw [if_pos y, if_pos (nI_lt y (by omega))]
        · rw [if_neg y, if_neg (nI_nlt (by omega) (by omega))]
      · rw [if_pos (show nI (nn N i j k) ≤ 0 by rw [show nn N i j k = 0 by omega]; decide), if_neg w]
  have e0 : iI ((u i : Int) * u j - sm (fun k => (nn N i j k : Int) * u k) 0) = nI (u i) * nI (u j) := by
    rw [nI_iI (u i), nI_iI (u j), iI_mul]
    show iI ((u i : Int) * u j - 0) = _
    rw [Int.sub_zero]
  rw [e0] at e
  exact e
/-- the first broken product's last KIND, or none -/
theorem B_lob {I : SI} {x r q : Nat} {N : Nat → Nat} (h : TB I x r N) (ho : OKT r N) (hq : 2 ≤ q) (hq2 : q ≤ 13) {u : Nat → Nat} (hu : ∀ i, i < r → I 28 i = nI (u i) ∧ u i ≤ 12) :
    (f_X4_lastOfBroken x (nI q) I = some (-1) ∧ ∀ i j, 1 ≤ j → j ≤ i → i < r → (q : Int) ∣ dmI N r u i j)
    ∨ ∃ L i j, f_X4_lastOfBroken x (nI q) I = some (nI L) ∧ 1 ≤ L ∧ L < r ∧ 1 ≤ j ∧ j ≤ i ∧ i ≤ L ∧ ¬ (q : Int) ∣ dmI N r u i j ∧ ∀ k, k < r → 0 < nn N i j k → k ≤ L := by
  obtain ⟨h1, h5, h9⟩ := id ho
  have e1 : ∀ i, 1 ≤ i → i < r → lp_X4_lastOfBroken_13 x (nI q) (nI i) I FU 1 = some (match fsO (fun j => tst (¬ (q : Int) ∣ dmI N r u i j)) i 1 with
      | none => (1, 0)
      | some (j, _) => (0, nI (lst N i j r))) := by
    intro i hi1 hi
    refine fsLoop (fun n j => lp_X4_lastOfBroken_13 x (nI q) (nI i) I n (nI j)) (i + 1) (fun j => tst (¬ (q : Int) ∣ dmI N r u i j)) (fun o => match o with
      | none => (1, 0)
      | some (j, _) => (0, nI (lst N i j r))) (fun n => ?_) (fun n j hj => ?_) i 1 FU (by omega) (by unfold FU; omega)
    · show lp_X4_lastOfBroken_13 x (nI q) (nI i) I (n + 1) (nI (i + 1)) = _
      rw [lp_X4_lastOfBroken_13.eq_2, if_pos (nI_lt (by omega) (by omega))]
    · have hjr : j < r := by omega
      have a := B_lob_in (q := q) h ho hu hi hjr
      have b := dmI_le ho (fun z hz => (hu z hz).2) hi hjr
      have c := rem_iff (a := dmI N r u i j) (by omega) (by omega) hq hq2
      have e2 : lp_X4_lastOfBroken_13 x (nI q) (nI i) I (n + 1) (nI j) = if ¬ (q : Int) ∣ dmI N r u i j then some (0, nI (lst N i j r)) else lp_X4_lastOfBroken_13 x (nI q) (nI i) I n (nI (j + 1)) := by
        rw [lp_X4_lastOfBroken_13.eq_2, if_neg (nI_nlt (by omega) (by omega)), gd_in (show i < 5 by omega) (by decide), gd_in (show j < 5 by omega) (by decide), cl (show i < 2 ^ 31 by omega), cl (show j < 2 ^ 31 by omega), (hu i hi).1, (hu j hjr).1, bd_ok a]
        show (if nI q ≤ 0 then _ else gd (nI q = 0) (if iI (dmI N r u i j) - iI (dmI N r u i j) / nI q * nI q = 0 then lp_X4_lastOfBroken_13 x (nI q) (nI i) I n (nI j + 1) else some (0, nI (lst N i j r)))) = _
        rw [if_neg (nI_nle (by omega) (by omega)), gd_nz (by omega) (by omega), show nI j + 1 = nI (j + 1) from nI_1 j]
        by_cases w : (q : Int) ∣ dmI N r u i j
        · rw [if_pos (c.mpr w), if_neg (fun y => y w)]
        · rw [if_neg (fun y => w (c.mp y)), if_pos w]
      by_cases w : ¬ (q : Int) ∣ dmI N r u i j
      · exact Or.inl ⟨(), tst_t w, by show lp_X4_lastOfBroken_13 x (nI q) (nI i) I (n + 1) (nI j) = _; rw [e2, if_pos w]⟩
      · exact Or.inr ⟨tst_f w, by show lp_X4_lastOfBroken_13 x (nI q) (nI i) I (n + 1) (nI j) = _; rw [e2, if_neg w]⟩
  have e3 : lp_X4_lastOfBroken_2 x (nI q) I FU 1 = some (match fsO (fun i => fsO (fun j => tst (¬ (q : Int) ∣ dmI N r u i j)) i 1) (r - 1) 1 with
      | none => (1, 0)
      | some (i, j, _) => (0, nI (lst N i j r))) := by
    have key : ∀ d i n, i + d = r → 1 ≤ i → d < n → lp_X4_lastOfBroken_2 x (nI q) I n (nI i) = some (match fsO (fun i => fsO (fun j => tst (¬ (q : Int) ∣ dmI N r u i j)) i 1) d i with
        | none => (1, 0)
        | some (i, j, _) => (0, nI (lst N i j r))) := by
      intro d
      induction d with
      | zero =>
        intro i n hi h1i hn
        obtain ⟨m, rfl⟩ : ∃ m, n = m + 1 := ⟨n - 1, by omega⟩
        rw [lp_X4_lastOfBroken_2.eq_2, h.1, if_pos (nI_le (by omega) (by omega))]
        rfl
      | succ d ih =>
        intro i n hi h1i hn
        obtain ⟨m, rfl⟩ : ∃ m, n = m + 1 := ⟨n - 1, by omega⟩
        have a := e1 i h1i (by omega)
        rw [lp_X4_lastOfBroken_2.eq_2, h.1, if_neg (le_nI (by omega) (by omega) (by omega))]
        cases w : fsO (fun j => tst (¬ (q : Int) ∣ dmI N r u i j)) i 1 with
        | some z =>
          rw [w] at a
          rw [bd_ok a, fsO_some (g := fun i => fsO (fun j => tst (¬ (q : Int) ∣ dmI N r u i j)) i 1) w]
          rfl
        | none =>
          rw [w] at a
          rw [bd_ok a, fsO_none (g := fun i => fsO (fun j => tst (¬ (q : Int) ∣ dmI N r u i j)) i 1) w, show nI i + 1 = nI (i + 1) from nI_1 i]
          exact ih (i + 1) m (by omega) (by omega) (by omega)
    exact key (r - 1) 1 FU (by omega) (Nat.le_refl _) (by unfold FU; omega)
  cases w : fsO (fun i => fsO (fun j => tst (¬ (q : Int) ∣ dmI N r u i j)) i 1) (r - 1) 1 with
  | none =>
    left
    rw [w] at e3
    refine ⟨?_, fun i j h1j hji hir => ?_⟩
    · unfold f_X4_lastOfBroken
      rw [bd_ok e3]
      rfl
    · have a := fsO_no (r - 1) 1 w i (by omega) (by omega)
      have b := fsO_no i 1 a j (by omega) (by omega)
      exact Decidable.not_not.mp (tst_no b)
  | some z =>
    right
    obtain ⟨i, j, uu⟩ := z
    rw [w] at e3
    obtain ⟨a1, a2, a3⟩ := fsO_at (r - 1) 1 _ w
    have a1 : 1 ≤ i := a1
    have a2 : i < 1 + (r - 1) := a2
    have a3 : fsO (fun j => tst (¬ (q : Int) ∣ dmI N r u i j)) i 1 = some (j, uu) := a3
    obtain ⟨b1, b2, b3⟩ := fsO_at i 1 _ a3
    have b1 : 1 ≤ j := b1
    have b2 : j < 1 + i := b2
    have b3 : tst (¬ (q : Int) ∣ dmI N r u i j) = some uu := b3
    obtain ⟨c1, c2, c3⟩ := lst_ge N i j r
    refine ⟨lst N i j r, i, j, ?_, by omega, c3 r (by omega) (Nat.le_refl _), b1, by omega, c1, fun y => ?_, fun k hk => c2 k hk⟩
    · unfold f_X4_lastOfBroken
      rw [bd_ok e3]
      rfl
    · rw [tst_f (fun z => z y)] at b3
      cases b3
theorem digit_next {q r x i : Nat} (hq : 2 ≤ q) (hi1 : 1 ≤ i) (hir : i < r) (hd : x / q ^ (r - 1 - i) % q < q - 1) : ∀ j, j < r → dgm q r ((x / q ^ (r - 1 - i) + 1) * q ^ (r - 1 - i)) j = if j < i then dgm q r x j else if j = i then dgm q r x i + 1 else 0 := by
  intro j hj
  have hp : ∀ e, 0 < q ^ e := fun e => Nat.pow_pos (by omega)
  by_cases h0 : j = 0
  · unfold dgm
    rw [if_pos h0, if_pos (by omega), if_pos h0]
  · by_cases h1 : j < i
    · rw [if_pos h1]
      unfold dgm
      rw [if_neg h0, if_neg h0]
      -- w_j = w_i * q * q^(i-1-j)
      have hw : q ^ (r - 1 - j) = q ^ (r - 1 - i) * (q * q ^ (i - 1 - j)) := by
        rw [← Nat.pow_succ', ← Nat.pow_add]
        congr 1
        omega
      have e1 : (x / q ^ (r - 1 - i) + 1) * q ^ (r - 1 - i) / q ^ (r - 1 - j) = (x / q ^ (r - 1 - i) + 1) / (q * q ^ (i - 1 - j)) := by
        rw [hw, Nat.mul_comm, Nat.mul_div_mul_left _ _ (hp _)]
      have e2 : x / q ^ (r - 1 - j) = x / q ^ (r - 1 - i) / (q * q ^ (i - 1 - j)) := by rw [hw, Nat.div_div_eq_div_mul]
      rw [e1, e2]
      generalize x / q ^ (r - 1 - i) = y at hd ⊢
      have e3 : (y + 1) / q = y / q := by
        have := Nat.div_add_mod y q
        have h4 : y + 1 = q * (y / q) + (y % q + 1) := by omega
        rw [h4, Nat.mul_add_div (by omega), Nat.div_eq_of_lt (show y % q + 1 < q by omega), Nat.add_zero]
      rw [← Nat.div_div_eq_div_mul, ← Nat.div_div_eq_div_mul, e3]
    · rw [if_neg h1]
      by_cases h2 : j = i
      · subst h2
        rw [if_pos rfl]
        unfold dgm
        rw [if_neg h0, if_neg h0, Nat.mul_div_cancel _ (hp _)]
        generalize x / q ^ (r - 1 - j) = y at hd ⊢
        have := Nat.div_add_mod y q
        have h4 : y + 1 = q * (y / q) + (y % q + 1) := by omega
        rw [h4, Nat.mul_add_mod, Nat.mod_eq_of_lt (by omega)]
      · rw [if_neg h2]
        unfold dgm
        rw [if_neg h0]
        have hw : q ^ (r - 1 - i) = q ^ (r - 1 - j) * (q * q ^ (j - i - 1)) := by
          rw [← Nat.pow_succ', ← Nat.pow_add]
          congr 1
          omega
        rw [hw, Nat.mul_comm (q ^ (r - 1 - j)), ← Nat.mul_assoc, Nat.mul_div_cancel _ (hp _), Nat.mul_comm q, ← Nat.mul_assoc, Nat.mul_mod_left]
