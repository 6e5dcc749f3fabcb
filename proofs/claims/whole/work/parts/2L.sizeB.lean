/-! SIZE: the class's side -/
abbrev iL (a : Int) : Int64 := Int64.ofInt a
theorem iL_add (a b : Int) : iL a + iL b = iL (a + b) := (Int64.ofInt_add a b).symm
theorem iL_sub (a b : Int) : iL a - iL b = iL (a - b) := (Int64.ofInt_sub a b).symm
theorem iL_mul (a b : Int) : iL a * iL b = iL (a * b) := (Int64.ofInt_mul a b).symm
theorem iL_neg (a : Int) : - iL a = iL (-a) := (Int64.ofInt_neg a).symm
theorem iL_toInt {a : Int} (h1 : -2 ^ 63 ≤ a) (h2 : a < 2 ^ 63) : (iL a).toInt = a := Int64.toInt_ofInt_of_le h1 h2
theorem iI_L {a : Int} (h1 : -2 ^ 31 ≤ a) (h2 : a < 2 ^ 31) : (iI a).toInt64 = iL a := by
  apply Int64.toInt_inj.mp
  rw [Int32.toInt_toInt64, iI_toInt h1 h2, iL_toInt (by omega) (by omega)]
theorem nI_L {n : Nat} (h : n < 2 ^ 31) : (nI n).toInt64 = iL n := by rw [nI_iI]; exact iI_L (by omega) (by omega)
theorem iL_pos {a : Int} (h1 : -2 ^ 63 ≤ a) (h2 : a < 2 ^ 63) : (0 < lg_cmp (iL a) 0) ↔ 0 < a := by
  rw [lg_cmp_gt, Int64.lt_iff_toInt_lt, iL_toInt h1 h2]
  exact Iff.rfl
def mS (N : Nat → Nat) (r i j : Nat) : Nat := sN (fun k => nn N k i j) r
def ent (N : Nat → Nat) (r v : Nat) : Nat → Nat → Int := fun i j => (if i = j then (v : Int) else 0) - 10 * (mS N r i j : Int)
theorem mS_le {N : Nat → Nat} {r : Nat} (ho : OKT r N) {i j : Nat} (hi : i < 5) (hj : j < 5) : mS N r i j ≤ 45 := by
  have h5 := ho.2.1
  have := sN_le (fun k => nn N k i j) 9 r (fun k hk => ho.nn (by omega) hi hj)
  unfold mS
  omega
theorem ent_le {N : Nat → Nat} {r v : Nat} (ho : OKT r N) (hv : v ≤ 2251) {i j : Nat} (hi : i < 5) (hj : j < 5) : -2251 ≤ ent N r v i j ∧ ent N r v i j ≤ 2251 := by
  have := mS_le ho hi hj
  unfold ent
  by_cases e : i = j
  · rw [if_pos e]; omega
  · rw [if_neg e]; omega
theorem holdsD : ∀ mask, mask < 32 → ∀ c, c < 5 → f_X5_holds (nI mask) (nI c) = some (if mask.testBit c = true then 1 else 0) := by decide +kernel
theorem subD : ∀ mask, mask < 32 → ∀ c, c < 5 → mask.testBit c = true → nI mask &&& (((1 : Int32) <<< (nI c &&& 31)) ^^^ (-1 : Int32)) = nI (mask - 2 ^ c) := by decide +kernel
theorem cntD : ∀ mask, mask < 32 → f_J6_bitCount (nI mask) = some (nI (pcn mask)) := by decide +kernel
theorem fullD : ∀ mask, mask < 32 → 1 ≤ mask → ((nI mask &&& (nI mask + 1)) = 0 ↔ mask = 2 ^ pcn mask - 1) := by decide +kernel
theorem shlD : ∀ r, r < 6 → (1 : Int32) <<< (nI r &&& 31) = nI (2 ^ r) := by decide +kernel
theorem pcn_le : ∀ r, r < 6 → ∀ mask, mask < 2 ^ r → pcn mask ≤ r := by decide +kernel
theorem pcn_pos : ∀ mask, mask < 32 → 1 ≤ mask → 1 ≤ pcn mask := by decide +kernel
theorem p2_le {r : Nat} (h5 : r ≤ 5) : 2 ^ r ≤ 32 := Nat.pow_le_pow_right (n := 2) (by decide) h5
/-- the sums are laid -/
def SumB (N : Nat → Nat) (r : Nat) (I : SI) : Prop := ∀ i j, i < r → j < r → I 30 (5 * i + j) = nI (mS N r i j)
theorem B_addUp {I : SI} {x r : Nat} {N : Nat → Nat} (hx : x < 8) (h : TB I x r N) (ho : OKT r N) : ∃ I', f_X0_addUp x I = some I' ∧ Fr [30] I I' ∧ SumB N r I' := by
  obtain ⟨h1, h5, h9⟩ := id ho
  have e26 : ∀ (S : SI) i j, TB S x r N → i < r → j < r → lp_X0_addUp_26 x (nI i) (nI j) S FU 0 0 = some (nI (mS N r i j)) := by
    intro S i j hS hi hj
    have e : lp_X0_addUp_26 x (nI i) (nI j) S FU (nI (sN (fun k => nn N k i j) 0)) (nI 0) = some (nI (mS N r i j)) := by
      refine upLoop (fun m k => lp_X0_addUp_26 x (nI i) (nI j) S m (nI (sN (fun k => nn N k i j) k)) (nI k)) r _ (fun m => ?_) (fun m k hk => ?_) r 0 FU (Nat.zero_add r) (FUlt h5)
      · show lp_X0_addUp_26 x (nI i) (nI j) S (m + 1) _ (nI r) = _
        rw [lp_X0_addUp_26.eq_2, hS.1, if_pos (nI_le (Nat.le_refl _) (by omega))]
        rfl
      · have e := B_num hS (i := k) (j := i) (k := j) (by omega) (by omega) (by omega)
        show lp_X0_addUp_26 x (nI i) (nI j) S (m + 1) _ (nI k) = lp_X0_addUp_26 x (nI i) (nI j) S m _ (nI (k + 1))
        rw [lp_X0_addUp_26.eq_2, hS.1, if_neg (le_nI (by omega) (by omega) (by omega)), bd_ok e, nI_add, show nI k + 1 = nI (k + 1) from nI_1 k]
        rfl
    exact e
  have e12 : ∀ (S : SI) i, i < r → Fr [30] I S → (∀ a b, a < r → b < r → 5 * a + b < 5 * i + 0 → S 30 (5 * a + b) = nI (mS N r a b)) → ∃ o, lp_X0_addUp_12 x (nI i) FU 0 S = some o ∧ Fr [30] I o ∧ ∀ a b, a < r → b < r → 5 * a + b < 5 * i + r → o 30 (5 * a + b) = nI (mS N r a b) := by
    intro S i hi hS hw
    refine exLoop (fun n j s => lp_X0_addUp_12 x (nI i) n (nI j) s) r (fun j s => Fr [30] I s ∧ ∀ a b, a < r → b < r → 5 * a + b < 5 * i + j → s 30 (5 * a + b) = nI (mS N r a b)) _ (fun n s hs => ?_) (fun n j s hj hs => ?_) r 0 FU S (Nat.zero_add r) (FUlt h5) ⟨hS, hw⟩
    · have t := h.fr hs.1 (by simp; omega) (by simp; omega)
      refine ⟨s, ?_, hs⟩
      show lp_X0_addUp_12 x (nI i) (n + 1) (nI r) s = _
      rw [lp_X0_addUp_12.eq_2, t.1, if_pos (nI_le (Nat.le_refl _) (by omega))]
    · have t := h.fr hs.1 (by simp; omega) (by simp; omega)
      refine ⟨ups s 30 (5 * i + j) (nI (mS N r i j)), ?_, hs.1.ups (by simp), fun a b ha hb hab => ?_⟩
      · show lp_X0_addUp_12 x (nI i) (n + 1) (nI j) s = lp_X0_addUp_12 x (nI i) n (nI (j + 1)) _
        rw [lp_X0_addUp_12.eq_2, t.1, if_neg (le_nI (by omega) (by omega) (by omega)), bd_ok (e26 s i j t hi hj), n5, pk_mul, nI_add, gd_in (show i * 5 + j < 25 by omega) (by decide), cl (by omega), show nI j + 1 = nI (j + 1) from nI_1 j, Nat.mul_comm i 5]
      · rw [ups_at]
        by_cases e : 5 * a + b = 5 * i + j
        · rw [if_pos e, show a = i by omega, show b = j by omega]
        · rw [if_neg e]; exact hs.2 a b ha hb (by omega)
  have e2 : ∃ o, lp_X0_addUp_2 x FU 0 I = some o ∧ Fr [30] I o ∧ SumB N r o := by
    refine exLoop (fun n i s => lp_X0_addUp_2 x n (nI i) s) r (fun i s => Fr [30] I s ∧ ∀ a b, a < r → b < r → 5 * a + b < 5 * i + 0 → s 30 (5 * a + b) = nI (mS N r a b)) _ (fun n s hs => ?_) (fun n i s hi hs => ?_) r 0 FU I (Nat.zero_add r) (FUlt h5) ⟨Fr.rf, fun a b _ _ q => by omega⟩
    · have t := h.fr hs.1 (by simp; omega) (by simp; omega)
      refine ⟨s, ?_, hs.1, fun a b ha hb => hs.2 a b ha hb (by omega)⟩
      show lp_X0_addUp_2 x (n + 1) (nI r) s = _
      rw [lp_X0_addUp_2.eq_2, t.1, if_pos (nI_le (Nat.le_refl _) (by omega))]
    · have t := h.fr hs.1 (by simp; omega) (by simp; omega)
      obtain ⟨o, e, f, g⟩ := e12 s i hi hs.1 hs.2
      refine ⟨o, ?_, f, fun a b ha hb hab => g a b ha hb (by omega)⟩
      show lp_X0_addUp_2 x (n + 1) (nI i) s = lp_X0_addUp_2 x n (nI (i + 1)) o
      rw [lp_X0_addUp_2.eq_2, t.1, if_neg (le_nI (by omega) (by omega) (by omega)), bd_ok e, show nI i + 1 = nI (i + 1) from nI_1 i]
  obtain ⟨o, e, f, g⟩ := e2
  refine ⟨o, ?_, f, g⟩
  unfold f_X0_addUp
  rw [bd_ok e]
theorem im1 (d : Nat) : nI d + (-1 : Int32) = iI ((d : Int) - 1) := by
  rw [nI_iI, show (-1 : Int32) = iI (-1) from rfl, iI_add]
  rfl
theorem ar_exp (A s y G E : Int) : A + s * y * G + -s * E = A + s * (y * G - E) := by
  rw [Int.mul_sub, Int.mul_assoc, Int.neg_mul]; omega
theorem B_exp16 {I : SI} {J : SJ} {N : Nat → Nat} {r v mask row : Nat} (ho : OKT r N) (hv : v ≤ 2251) (hs : SumB N r I) (hm : mask < 2 ^ r) (hrow : row < r) (G : Nat → Int) (hJ : ∀ c, c < r → mask.testBit c = true → J 31 (mask - 2 ^ c) = iL (G (mask - 2 ^ c))) :
    ∀ d n A s, d ≤ 5 → d < n → lp_X0_expandedMinor_16 (nI v) (nI mask) (nI row) I J n (iL A) (iL s) (iI ((d : Int) - 1)) = some (iL (A + s * exq (ent N r v row) mask G d)) := by
  obtain ⟨h1, h5, h9⟩ := id ho
  have h32 := p2_le h5
  intro d
  induction d with
  | zero =>
    intro n A s _ hn
    obtain ⟨m, rfl⟩ : ∃ m, n = m + 1 := ⟨n - 1, by omega⟩
    rw [lp_X0_expandedMinor_16.eq_2, if_pos (show iI (((0 : Nat) : Int) - 1) < 0 by decide), exq, Int.mul_zero, Int.add_zero]
  | succ d ih =>
    intro n A s hd hn
    obtain ⟨m, rfl⟩ : ∃ m, n = m + 1 := ⟨n - 1, by omega⟩
    rw [show iI (((d + 1 : Nat) : Int) - 1) = nI d by rw [nI_iI]; congr 1; omega, lp_X0_expandedMinor_16.eq_2, if_neg (show ¬ nI d < 0 from nI_nlt (b := 0) (by omega) (by omega)), bd_ok (holdsD mask (by omega) d (by omega)), exq]
    by_cases w : mask.testBit d = true
    · have hdr : d < r := by
        rcases Nat.lt_or_ge d r with q | q
        · exact q
        · rw [Nat.testBit_lt_two_pow (Nat.lt_of_lt_of_le hm (Nat.pow_le_pow_right (by decide) q))] at w
          cases w
      have hsub := subD mask (by omega) d (by omega) w
      have hJd := hJ d hdr w
      have hlt := (pcn_sub mask (by omega) d (by omega) w).2
      have hS := hs row d hrow hdr
      have hSb := mS_le ho (i := row) (j := d) (by omega) (by omega)
      rw [if_pos w, if_pos w, if_neg (by decide), hsub, n5, pk_mul, nI_add, gd_in (show row * 5 + d < 25 by omega) (by decide), gd_in (show mask - 2 ^ d < 32 by omega) (by decide), cl (show row * 5 + d < 2 ^ 31 by omega), cl (show mask - 2 ^ d < 2 ^ 31 by omega), Nat.mul_comm row 5, hS, hJd, nI_L (by omega), nI_L (by omega), show (10 : Int64) = iL 10 from rfl, iL_mul, iL_neg, im1]
      have key : ∀ z : Int, (ent N r v row d = z - 10 * (mS N r row d : Int)) → lp_X0_expandedMinor_16 (nI v) (nI mask) (nI row) I J m (iL A + iL s * (iL z - iL (10 * (mS N r row d : Int))) * iL (G (mask - 2 ^ d))) (iL (-s)) (iI ((d : Int) - 1)) = some (iL (A + s * (ent N r v row d * G (mask - 2 ^ d) - exq (ent N r v row) mask G d))) := by
        intro z hz
        rw [iL_sub, iL_mul, iL_mul, iL_add, ih m _ (-s) (by omega) (by omega), hz, ar_exp]
      by_cases e : d = row
      · rw [if_pos (by rw [e])]
        exact key v (by unfold ent; rw [if_pos e.symm])
      · rw [if_neg (fun q => e ((nI_eq (by omega) (by omega)).mp q)), show (0 : Int32).toInt64 = iL 0 from rfl, gd_inc (show 5 * row + d < 25 by omega) (by decide), gd_inc (show mask - 2 ^ d < 32 by omega) (by decide)]
        exact key 0 (by unfold ent; rw [if_neg (Ne.symm e)])
    · rw [if_neg w, if_pos rfl, if_neg w, im1]
      exact ih m A s (by omega) (by omega)
theorem B_exp {I : SI} {J : SJ} {N : Nat → Nat} {r v mask : Nat} (ho : OKT r N) (hv : v ≤ 2251) (hs : SumB N r I) (hm : mask < 2 ^ r) (h1m : 1 ≤ mask) (hJ : ∀ m, m < mask → J 31 m = iL (Ex (ent N r v) (pcn m) m)) :
    f_X0_expandedMinor (nI v) (nI mask) I J = some (iL (Ex (ent N r v) (pcn mask) mask)) := by
  obtain ⟨h1, h5, h9⟩ := id ho
  have h32 := p2_le h5
  have p1 := pcn_pos mask (by omega) h1m
  have p2 := pcn_le r (by omega) mask hm
  obtain ⟨row, hrow⟩ : ∃ row, pcn mask = row + 1 := ⟨pcn mask - 1, by omega⟩
  have e := B_exp16 (J := J) ho hv hs hm (row := row) (by omega) (Ex (ent N r v) row) (fun c hc hb => by
    have q := pcn_sub mask (by omega) c (by omega) hb
    rw [hJ (mask - 2 ^ c) q.2, show pcn (mask - 2 ^ c) = row by omega]) 5 FU 0 1 (by decide) (by decide)
  unfold f_X0_expandedMinor
  rw [bd_ok (cntD mask (by omega)), hrow, show nI (row + 1) - 1 = nI row by rw [n1, pk_sub (by omega)]; rfl, bd_ok (show lp_X0_expandedMinor_16 (nI v) (nI mask) (nI row) I J FU 0 1 4 = _ from e), Ex, Int.zero_add, Int.one_mul]
abbrev Pos (N : Nat → Nat) (r v : Nat) : Prop := ∀ m, 1 ≤ m → m ≤ r → 0 < Ex (ent N r v) m (2 ^ m - 1)
theorem B_above {I : SI} (J : SJ) {N : Nat → Nat} {r v : Nat} (ho : OKT r N) (hv : v ≤ 2251) (hs : SumB N r I) : ∃ J', f_X0_isAbove (nI v) (nI r) I J = some (nI (bP (Pos N r v)), J') := by
  obtain ⟨h1, h5, h9⟩ := id ho
  have h32 := p2_le h5
  have hp : 2 ^ 1 ≤ 2 ^ r := Nat.pow_le_pow_right (n := 2) (by decide) h1
  have bound : ∀ q, q < 2 ^ r → -2 ^ 63 ≤ Ex (ent N r v) (pcn q) q ∧ Ex (ent N r v) (pcn q) q < 2 ^ 63 := fun q hq => by
    have p2 := pcn_le r (by omega) q hq
    have a := Ex_le (a := ent N r v) (fun i c hi hc => ent_le ho hv hi hc) (pcn q) q (by omega) (by omega) rfl
    have b := fac_lt (pcn q) (by omega)
    omega
  have e := exitLoop (fun n q J => lp_X0_isAbove_9 (nI v) (nI r) I n (nI q) J) (2 ^ r) (fun q J => 1 ≤ q ∧ ∀ m, m < q → J 31 m = iL (Ex (ent N r v) (pcn m) m)) (fun _ => True) (fun q => 1 ≤ q → q = 2 ^ pcn q - 1 → 0 < Ex (ent N r v) (pcn q) q) (fun n J hJ => ?_) (fun n q J hq hJ => ?_) (2 ^ r - 1) 1 FU (upj J 31 0 1) (by omega) (by unfold FU; omega) ⟨Nat.le_refl _, fun m hm => by
    rw [upj_at, if_pos (by omega), show m = 0 by omega]
    rfl⟩
  · rcases e with ⟨J', e, _, w⟩ | ⟨J', e, _, q, hq, w⟩
    · refine ⟨J', ?_⟩
      have hP : Pos N r v := fun m hm1 hmr => by
        have pm : 2 ^ m ≤ 2 ^ r := Nat.pow_le_pow_right (by decide) hmr
        have pm1 : 2 ^ 1 ≤ 2 ^ m := Nat.pow_le_pow_right (n := 2) (by decide) hm1
        have f := pcn_full m (by omega)
        have := w (2 ^ m - 1) (by omega) (by omega) (by omega) (by rw [f])
        rw [f] at this
        exact this
      unfold f_X0_isAbove
      rw [bd_ok (show lp_X0_isAbove_9 (nI v) (nI r) I FU 1 (upj J 31 (0 : Int32).toNatClampNeg 1) = some (1, J') from e), bP1 hP]
      rfl
    · refine ⟨J', ?_⟩
      have hP : ¬ Pos N r v := fun y => w (fun hq1 hfull => by
        have p1 := pcn_pos q (by omega) hq1
        have p2 := pcn_le r (by omega) q hq
        have z := y (pcn q) p1 p2
        rw [← hfull] at z
        exact z)
      unfold f_X0_isAbove
      rw [bd_ok (show lp_X0_isAbove_9 (nI v) (nI r) I FU 1 (upj J 31 (0 : Int32).toNatClampNeg 1) = some (0, J') from e), bP0 hP]
      rfl
  · show lp_X0_isAbove_9 (nI v) (nI r) I (n + 1) (nI (2 ^ r)) J = _
    rw [lp_X0_isAbove_9.eq_2, shlD r (by omega), if_pos (nI_le (Nat.le_refl _) (by omega))]
  · obtain ⟨hq1, hJ⟩ := hJ
    · have e := B_exp (J := J) ho hv hs hq (by omega) hJ
      have hnew : ∀ m, m < q + 1 → (upj J 31 q (iL (Ex (ent N r v) (pcn q) q))) 31 m = iL (Ex (ent N r v) (pcn m) m) := fun m hm => by
        rw [upj_at]
        by_cases z : m = q
        · rw [if_pos z, z]
        · rw [if_neg z]; exact hJ m (by omega)
      have st : lp_X0_isAbove_9 (nI v) (nI r) I (n + 1) (nI q) J = if q = 2 ^ pcn q - 1 then (if 0 < Ex (ent N r v) (pcn q) q then lp_X0_isAbove_9 (nI v) (nI r) I n (nI (q + 1)) (upj J 31 q (iL (Ex (ent N r v) (pcn q) q))) else some (0, upj J 31 q (iL (Ex (ent N r v) (pcn q) q)))) else lp_X0_isAbove_9 (nI v) (nI r) I n (nI (q + 1)) (upj J 31 q (iL (Ex (ent N r v) (pcn q) q))) := by
        have hb := bound q hq
        rw [lp_X0_isAbove_9.eq_2, shlD r (by omega), if_neg (le_nI (by omega) (by omega) (by omega)), bd_ok e, gd_in (show q < 32 by omega) (by decide), cl (show q < 2 ^ 31 by omega), if_neg (show ¬ (1 : Int32) = 0 by decide), gd_inc (show q < 32 by omega) (by decide), if_pos (show (0 : Int32) = 0 from rfl), upj_at, if_pos rfl, show nI q + 1 = nI (q + 1) from nI_1 q]
        have f := fullD q (by omega) (by omega)
        rw [show nI q + 1 = nI (q + 1) from nI_1 q] at f
        by_cases w : q = 2 ^ pcn q - 1
        · rw [if_pos (f.mpr w), if_pos w]
          by_cases y : 0 < Ex (ent N r v) (pcn q) q
          · rw [if_pos y, if_pos ((iL_pos hb.1 hb.2).mpr y)]
          · rw [if_neg y, if_neg (fun z => y ((iL_pos hb.1 hb.2).mp z))]
        · rw [if_neg (fun z => w (f.mp z)), if_neg w]
      by_cases w : q = 2 ^ pcn q - 1
      · by_cases y : 0 < Ex (ent N r v) (pcn q) q
        · exact Or.inl ⟨_, by show lp_X0_isAbove_9 (nI v) (nI r) I (n + 1) (nI q) J = _; rw [st, if_pos w, if_pos y], ⟨by omega, hnew⟩, fun _ _ => y⟩
        · exact Or.inr ⟨_, by show lp_X0_isAbove_9 (nI v) (nI r) I (n + 1) (nI q) J = _; rw [st, if_pos w, if_neg y], trivial, fun z => y (z (by omega) w)⟩
      · exact Or.inl ⟨_, by show lp_X0_isAbove_9 (nI v) (nI r) I (n + 1) (nI q) J = _; rw [st, if_neg w], ⟨by omega, hnew⟩, fun _ z => absurd z w⟩
/-- halving -/
noncomputable def bis (P : Nat → Prop) : Nat → Nat → Nat → Nat
  | 0, lo, _ => lo
  | k + 1, lo, hi => if hi - lo ≤ 1 then lo else if bP (P ((lo + hi) / 2)) = 0 then bis P k ((lo + hi) / 2) hi else bis P k lo ((lo + hi) / 2)
theorem bis_stop (P : Nat → Prop) {lo hi : Nat} (h : hi - lo ≤ 1) : ∀ k, bis P k lo hi = lo := by
  intro k
  cases k with
  | zero => rfl
  | succ k => rw [bis, if_pos h]
theorem nI_b0 (P : Prop) : (nI (bP P) = 0) ↔ bP P = 0 := by
  rcases bP_c P with ⟨_, e⟩ | ⟨_, e⟩
  · rw [e]; decide
  · rw [e]; decide
theorem B_tenths14 {I : SI} {x r : Nat} {N : Nat → Nat} (hr : I (8 + x) 0 = nI r) (ho : OKT r N) (hs : SumB N r I) : ∀ k lo hi n (J : SJ), k ≤ 12 → lo ≤ hi → hi ≤ 2251 → k < n → ∃ J', lp_X0_tenths_14 x I n (nI lo) (nI hi) (nI (12 - k)) J = some (nI (bis (Pos N r) k lo hi), J') := by
  intro k
  induction k with
  | zero =>
    intro lo hi n J hk hlo hhi hn
    obtain ⟨m, rfl⟩ : ∃ m, n = m + 1 := ⟨n - 1, by omega⟩
    exact ⟨J, by rw [lp_X0_tenths_14.eq_2, if_pos (show (12 : Int32) ≤ nI (12 - 0) by decide)]; rfl⟩
  | succ k ih =>
    intro lo hi n J hk hlo hhi hn
    obtain ⟨m, rfl⟩ : ∃ m, n = m + 1 := ⟨n - 1, by omega⟩
    rw [lp_X0_tenths_14.eq_2, if_neg (show ¬ (12 : Int32) ≤ nI (12 - (k + 1)) from le_nI (a := 12) (by decide) (by omega) (by omega)), pk_sub hlo, bis]
    by_cases w : hi - lo ≤ 1
    · rw [if_pos (show nI (hi - lo) ≤ 1 from nI_le (b := 1) w (by decide)), if_pos w]
      exact ⟨J, rfl⟩
    · rw [if_neg (show ¬ nI (hi - lo) ≤ 1 from le_nI (b := 1) (by omega) (by decide) w), if_neg w, nI_add, pk_shrN (by omega) _ 1 (by decide), Nat.pow_one, hr]
      obtain ⟨J1, e1⟩ := B_above (v := (lo + hi) / 2) J ho (by omega) hs
      rw [bd_ok e1, show nI (12 - (k + 1)) + 1 = nI (12 - k) from (nI_1 _).trans (by rw [show 12 - (k + 1) + 1 = 12 - k by omega])]
      by_cases y : bP (Pos N r ((lo + hi) / 2)) = 0
      · rw [if_pos y]
        obtain ⟨J2, e2⟩ := ih ((lo + hi) / 2) hi m J1 (by omega) (by omega) hhi (by omega)
        exact ⟨J2, (if_pos ((nI_b0 _).mpr y)).trans e2⟩
      · rw [if_neg y]
        obtain ⟨J2, e2⟩ := ih lo ((lo + hi) / 2) m J1 (by omega) (by omega) (by omega) (by omega)
        exact ⟨J2, (if_neg (fun z => y ((nI_b0 _).mp z))).trans e2⟩
theorem B_tenths {I : SI} {x r : Nat} {N : Nat → Nat} (J : SJ) (hx : x < 8) (h : TB I x r N) (ho : OKT r N) : ∃ I' J', f_X0_tenths x I J = some (nI (bis (Pos N r) 12 0 2251), I', J') ∧ Fr [30] I I' := by
  obtain ⟨I1, e1, f1, g1⟩ := B_addUp hx h ho
  have t := h.fr f1 (by simp; omega) (by simp; omega)
  obtain ⟨J', e2⟩ := B_tenths14 t.1 ho g1 12 0 2251 FU J (by decide) (by decide) (by decide) (by decide)
  refine ⟨I1, J', ?_, f1⟩
  unfold f_X0_tenths
  rw [bd_ok e1, bd_ok (show lp_X0_tenths_14 x I1 FU 0 2251 0 J = some (nI (bis (Pos N r) 12 0 2251), J') from e2)]
