/-! SIZE: the reference's side, and the call -/
def LinM (N : Nat → Nat) (r v : Nat) (I : SI) : Prop := ∀ i j, i < r → j < r → I 11 (5 * i + j) = iI (ent N r v i j)
theorem M_lines {I : SI} {t r v : Nat} {N : Nat → Nat} (ht : t < 7) (h : TM I t r N) (ho : OKT r N) (hv : v ≤ 2251) : ∃ I', f_X9_layLines (nI t) (nI v) I = some I' ∧ Fr [11] I I' ∧ LinM N r v I' := by
  obtain ⟨h1, h5, h9⟩ := id ho
  have e32 : ∀ (S : SI) i j, TM S t r N → i < r → j < r → lp_X9_layLines_32 (nI t) (nI v) (nI i) (nI j) S FU 0 0 = some (nI (mS N r i j)) := by
    intro S i j hS hi hj
    have e : lp_X9_layLines_32 (nI t) (nI v) (nI i) (nI j) S FU (nI (sN (fun k => nn N k i j) 0)) (nI 0) = some (nI (mS N r i j)) := by
      refine upLoop (fun m k => lp_X9_layLines_32 (nI t) (nI v) (nI i) (nI j) S m (nI (sN (fun k => nn N k i j) k)) (nI k)) r _ (fun m => ?_) (fun m k hk => ?_) r 0 FU (Nat.zero_add r) (FUlt h5)
      · show lp_X9_layLines_32 (nI t) (nI v) (nI i) (nI j) S (m + 1) _ (nI r) = _
        rw [lp_X9_layLines_32.eq_2, gd_in ht (by decide), cl (by omega), hS.1, if_pos (nI_le (Nat.le_refl _) (by omega))]
        rfl
      · have e := M_num hS ht (i := k) (j := i) (k := j) (by omega) (by omega) (by omega)
        show lp_X9_layLines_32 (nI t) (nI v) (nI i) (nI j) S (m + 1) _ (nI k) = lp_X9_layLines_32 (nI t) (nI v) (nI i) (nI j) S m _ (nI (k + 1))
        rw [lp_X9_layLines_32.eq_2, gd_in ht (by decide), cl (by omega), hS.1, if_neg (le_nI (by omega) (by omega) (by omega)), bd_ok e, nI_add, show nI k + 1 = nI (k + 1) from nI_1 k]
        rfl
    exact e
  have e15 : ∀ (S : SI) i, i < r → Fr [11] I S → (∀ a b, a < r → b < r → 5 * a + b < 5 * i + 0 → S 11 (5 * a + b) = iI (ent N r v a b)) → ∃ o, lp_X9_layLines_15 (nI t) (nI v) (nI i) FU 0 S = some o ∧ Fr [11] I o ∧ ∀ a b, a < r → b < r → 5 * a + b < 5 * i + r → o 11 (5 * a + b) = iI (ent N r v a b) := by
    intro S i hi hS hw
    refine exLoop (fun n j s => lp_X9_layLines_15 (nI t) (nI v) (nI i) n (nI j) s) r (fun j s => Fr [11] I s ∧ ∀ a b, a < r → b < r → 5 * a + b < 5 * i + j → s 11 (5 * a + b) = iI (ent N r v a b)) _ (fun n s hs => ?_) (fun n j s hj hs => ?_) r 0 FU S (Nat.zero_add r) (FUlt h5) ⟨hS, hw⟩
    · have u := h.fr hs.1 (by decide) (by decide)
      refine ⟨s, ?_, hs⟩
      show lp_X9_layLines_15 (nI t) (nI v) (nI i) (n + 1) (nI r) s = _
      rw [lp_X9_layLines_15.eq_2, gd_in ht (by decide), cl (by omega), u.1, if_pos (nI_le (Nat.le_refl _) (by omega))]
    · have u := h.fr hs.1 (by decide) (by decide)
      refine ⟨ups s 11 (5 * i + j) (iI (ent N r v i j)), ?_, hs.1.ups (by simp), fun a b ha hb hab => ?_⟩
      · show lp_X9_layLines_15 (nI t) (nI v) (nI i) (n + 1) (nI j) s = lp_X9_layLines_15 (nI t) (nI v) (nI i) n (nI (j + 1)) _
        rw [lp_X9_layLines_15.eq_2, gd_in ht (by decide), cl (show t < 2 ^ 31 by omega), u.1, if_neg (le_nI (by omega) (by omega) (by omega)), bd_ok (e32 s i j u hi hj), n5, pk_mul, nI_add, gd_in (show 5 * i + j < 25 by omega) (by decide), cl (show 5 * i + j < 2 ^ 31 by omega), gd_inc (show 5 * i + j < 25 by omega) (by decide), show nI j + 1 = nI (j + 1) from nI_1 j, n10, pk_mul]
        by_cases e : i = j
        · rw [if_pos (by rw [e]), show nI v - nI (10 * mS N r i j) = iI ((v : Int) - (10 * mS N r i j : Nat)) by rw [nI_iI v, nI_iI (10 * _), iI_sub]]
          congr 2
          unfold ent
          rw [if_pos e]
          congr 1
        · rw [if_neg (fun q => e ((nI_eq (by omega) (by omega)).mp q)), show (0 : Int32) = iI 0 from rfl, nI_iI (10 * _), iI_sub]
          congr 2
          unfold ent
          rw [if_neg e]
          congr 1
      · rw [ups_at]
        by_cases e : 5 * a + b = 5 * i + j
        · rw [if_pos e, show a = i by omega, show b = j by omega]
        · rw [if_neg e]; exact hs.2 a b ha hb (by omega)
  have e2 : ∃ o, lp_X9_layLines_2 (nI t) (nI v) FU 0 I = some o ∧ Fr [11] I o ∧ LinM N r v o := by
    refine exLoop (fun n i s => lp_X9_layLines_2 (nI t) (nI v) n (nI i) s) r (fun i s => Fr [11] I s ∧ ∀ a b, a < r → b < r → 5 * a + b < 5 * i + 0 → s 11 (5 * a + b) = iI (ent N r v a b)) _ (fun n s hs => ?_) (fun n i s hi hs => ?_) r 0 FU I (Nat.zero_add r) (FUlt h5) ⟨Fr.rf, fun a b _ _ q => by omega⟩
    · have u := h.fr hs.1 (by decide) (by decide)
      refine ⟨s, ?_, hs.1, fun a b ha hb => hs.2 a b ha hb (by omega)⟩
      show lp_X9_layLines_2 (nI t) (nI v) (n + 1) (nI r) s = _
      rw [lp_X9_layLines_2.eq_2, gd_in ht (by decide), cl (by omega), u.1, if_pos (nI_le (Nat.le_refl _) (by omega))]
    · have u := h.fr hs.1 (by decide) (by decide)
      obtain ⟨o, e, f, g⟩ := e15 s i hi hs.1 hs.2
      refine ⟨o, ?_, f, fun a b ha hb hab => g a b ha hb (by omega)⟩
      show lp_X9_layLines_2 (nI t) (nI v) (n + 1) (nI i) s = lp_X9_layLines_2 (nI t) (nI v) n (nI (i + 1)) o
      rw [lp_X9_layLines_2.eq_2, gd_in ht (by decide), cl (by omega), u.1, if_neg (le_nI (by omega) (by omega) (by omega)), bd_ok e, show nI i + 1 = nI (i + 1) from nI_1 i]
  obtain ⟨o, e, f, g⟩ := e2
  refine ⟨o, ?_, f, g⟩
  unfold f_X9_layLines
  rw [bd_ok e]
theorem ps_le (d : Nat → Nat) (j : Nat) : ∀ k, -1 ≤ ps d j k ∧ ps d j k ≤ 1 := by
  intro k
  induction k with
  | zero => exact ⟨show -(1 : Int) ≤ 1 by decide, show (1 : Int) ≤ 1 by decide⟩
  | succ k ih =>
    have c : -1 ≤ cp (d k) (d j) ∧ cp (d k) (d j) ≤ 1 := by
      unfold cp
      by_cases a : d k = d j
      · rw [if_pos a]; decide
      · rw [if_neg a]
        by_cases b : d k ≤ d j
        · rw [if_pos b]; decide
        · rw [if_neg b]; decide
    rw [ps]
    exact iab ih c (by decide) (by decide)
theorem sgD_le (d : Nat → Nat) : ∀ k, -1 ≤ sgD d k ∧ sgD d k ≤ 1 := by
  intro k
  induction k with
  | zero => exact ⟨show -(1 : Int) ≤ 1 by decide, show (1 : Int) ≤ 1 by decide⟩
  | succ k ih => rw [sgD]; exact iab ih (ps_le d k k) (by decide) (by decide)
theorem M_turn31 {I : SI} {m j : Nat} {d : Nat → Nat} (v3 : Int32) (hj : j < 5) (hd : ∀ i, i ≤ j → I 12 i = nI (d i) ∧ d i < 5) (z : Int) : lp_X9_layTurn_31 (nI m) v3 (nI j) I FU (iI z) 0 = some (iI (z * ps d j j)) := by
  have e : lp_X9_layTurn_31 (nI m) v3 (nI j) I FU (iI (z * ps d j 0)) (nI 0) = some (iI (z * ps d j j)) := by
    refine upLoop (fun n k => lp_X9_layTurn_31 (nI m) v3 (nI j) I n (iI (z * ps d j k)) (nI k)) j _ (fun n => ?_) (fun n k hk => ?_) j 0 FU (Nat.zero_add j) (FUlt (by omega))
    · show lp_X9_layTurn_31 (nI m) v3 (nI j) I (n + 1) _ (nI j) = _
      rw [lp_X9_layTurn_31.eq_2, if_pos (nI_le (Nat.le_refl _) (by omega))]
    · have a := hd k (by omega)
      have b := hd j (by omega)
      show lp_X9_layTurn_31 (nI m) v3 (nI j) I (n + 1) (iI (z * ps d j k)) (nI k) = lp_X9_layTurn_31 (nI m) v3 (nI j) I n (iI (z * ps d j (k + 1))) (nI (k + 1))
      rw [lp_X9_layTurn_31.eq_2, if_neg (le_nI (by omega) (by omega) (by omega)), gd_in (show k < 5 by omega) (by decide), gd_in hj (by decide), cl (show k < 2 ^ 31 by omega), cl (show j < 2 ^ 31 by omega), a.1, b.1, show nI k + 1 = nI (k + 1) from nI_1 k, gd_inc (show k < 5 by omega) (by decide), gd_inc hj (by decide), ps]
      unfold cp
      by_cases w : d k = d j
      · rw [if_pos (by rw [w]), if_pos w, Int.mul_zero, Int.mul_zero]; rfl
      · rw [if_neg (fun q => w ((nI_eq (by omega) (by omega)).mp q)), if_neg w]
        by_cases y : d k ≤ d j
        · rw [if_pos (nI_le y (by omega)), if_pos y, Int.mul_one]
        · rw [if_neg (le_nI (by omega) (by omega) y), if_neg y, show (0 : Int32) = iI 0 from rfl, iI_sub, Int.zero_sub, Int.mul_neg, Int.mul_one, Int.mul_neg]
  rw [show z * ps d j 0 = z from Int.mul_one z] at e
  exact e
theorem M_turn {I : SI} {m u : Nat} (h1 : 1 ≤ m) (h5 : m ≤ 5) (hu : u < 100000) : ∃ I', f_X9_layTurn (nI m) (nI u) I = some (iI (sgD (dg m u) m), I') ∧ Fr [12] I I' ∧ ∀ i, i < m → I' 12 i = nI (dg m u i) := by
  have dlt : ∀ i, dg m u i < m := fun i => Nat.mod_lt _ (by omega)
  have key : ∀ d j n (S : SI), j + d = m → d < n → Fr [12] I S → (∀ i, i < j → S 12 i = nI (dg m u i)) → ∃ I', lp_X9_layTurn_8 (nI m) n (nI (u / m ^ j)) (iI (sgD (dg m u) j)) (nI j) S = some (iI (sgD (dg m u) m), I') ∧ Fr [12] I I' ∧ ∀ i, i < m → I' 12 i = nI (dg m u i) := by
    intro d
    induction d with
    | zero =>
      intro j n S hj hn hf hw
      obtain ⟨k, rfl⟩ : ∃ k, n = k + 1 := ⟨n - 1, by omega⟩
      have e : j = m := by omega
      subst e
      exact ⟨S, by rw [lp_X9_layTurn_8.eq_2, if_pos (nI_le (Nat.le_refl _) (by omega))], hf, hw⟩
    | succ d ih =>
      intro j n S hj hn hf hw
      obtain ⟨k, rfl⟩ : ∃ k, n = k + 1 := ⟨n - 1, by omega⟩
      have hb : u / m ^ j < 2 ^ 31 := by have := Nat.div_le_self u (m ^ j); omega
      have hw2 : ∀ i, i ≤ j → (ups S 12 j (nI (dg m u j))) 12 i = nI (dg m u i) ∧ dg m u i < 5 := fun i hi => by
        refine ⟨?_, by have := dlt i; omega⟩
        rw [ups_at]
        by_cases e : i = j
        · rw [if_pos e, e]
        · rw [if_neg e]; exact hw i (by omega)
      obtain ⟨I', e, f, g⟩ := ih (j + 1) k (ups S 12 j (nI (dg m u j))) (by omega) (by omega) (hf.ups (by simp)) (fun i hi => (hw2 i (by omega)).1)
      refine ⟨I', ?_, f, g⟩
      rw [lp_X9_layTurn_8.eq_2, if_neg (le_nI (by omega) (by omega) (by omega)), gd_nz (by omega) (by omega), gd_in (show j < 5 by omega) (by decide), gd_nz (by omega) (by omega), cl (show j < 2 ^ 31 by omega), pk_rem hb (by omega) (by omega), pk_div hb (by omega) (by omega), bd_ok (show lp_X9_layTurn_31 (nI m) (nI (u / m ^ j / m)) (nI j) (ups S 12 j (nI (u / m ^ j % m))) FU (iI (sgD (dg m u) j)) 0 = _ from M_turn31 _ (by omega) hw2 _), show nI j + 1 = nI (j + 1) from nI_1 j, Nat.div_div_eq_div_mul, ← Nat.pow_succ]
      exact e
  obtain ⟨I', e, f, g⟩ := key m 0 FU I (by omega) (FUlt h5) Fr.rf (fun i hi => by omega)
  refine ⟨I', ?_, f, g⟩
  unfold f_X9_layTurn
  rw [Nat.pow_zero, Nat.div_one] at e
  rw [bd_ok (show lp_X9_layTurn_8 (nI m) FU (nI u) 1 0 I = _ from e)]
def p9 (a : Nat → Nat → Int) (d : Nat → Nat) (s : Int) : Nat → Int
  | 0 => s
  | k + 1 => if 3 ≤ k then p9 a d s k else p9 a d s k * a k (d k)
def p11 (a : Nat → Nat → Int) (d : Nat → Nat) : Nat → Int
  | 0 => 1
  | k + 1 => if 3 ≤ k then p11 a d k * a k (d k) else p11 a d k
theorem p_pd (a : Nat → Nat → Int) (d : Nat → Nat) (s : Int) : ∀ k, p9 a d s k * p11 a d k = s * pd a d k := by
  intro k
  induction k with
  | zero => rfl
  | succ k ih =>
    rw [p9, p11, pd]
    by_cases w : 3 ≤ k
    · rw [if_pos w, if_pos w, ← Int.mul_assoc, ih, Int.mul_assoc]
    · rw [if_neg w, if_neg w, ← Int.mul_assoc, ← ih, Int.mul_assoc, Int.mul_assoc, Int.mul_comm (a k (d k))]
theorem p9_le {a : Nat → Nat → Int} {d : Nat → Nat} {s : Int} (hs : -1 ≤ s ∧ s ≤ 1) : ∀ k, (∀ i, i < k → -2251 ≤ a i (d i) ∧ a i (d i) ≤ 2251) → -11405979251 ≤ p9 a d s k ∧ p9 a d s k ≤ 11405979251 ∧ (k ≤ 2 → -5067001 ≤ p9 a d s k ∧ p9 a d s k ≤ 5067001) ∧ (k ≤ 1 → -2251 ≤ p9 a d s k ∧ p9 a d s k ≤ 2251) ∧ (k = 0 → -1 ≤ p9 a d s k ∧ p9 a d s k ≤ 1) := by
  intro k
  induction k with
  | zero => intro _; rw [p9]; omega
  | succ k ih =>
    intro ha
    have i0 := ih (fun i hi => ha i (by omega))
    have hk := ha k (by omega)
    rw [p9]
    by_cases w : 3 ≤ k
    · rw [if_pos w]; omega
    · rw [if_neg w]
      rcases (show k = 0 ∨ k = 1 ∨ k = 2 by omega) with e | e | e
      · have := iab (i0.2.2.2.2 e) hk (by decide) (by decide)
        omega
      · have := iab (i0.2.2.2.1 (by omega)) hk (by decide) (by decide)
        omega
      · have := iab (i0.2.2.1 (by omega)) hk (by decide) (by decide)
        omega
theorem p11_le {a : Nat → Nat → Int} {d : Nat → Nat} : ∀ k, k ≤ 5 → (∀ i, i < k → -2251 ≤ a i (d i) ∧ a i (d i) ≤ 2251) → -5067001 ≤ p11 a d k ∧ p11 a d k ≤ 5067001 ∧ (k ≤ 4 → -2251 ≤ p11 a d k ∧ p11 a d k ≤ 2251) ∧ (k ≤ 3 → -1 ≤ p11 a d k ∧ p11 a d k ≤ 1) := by
  intro k
  induction k with
  | zero => intro _ _; rw [p11]; omega
  | succ k ih =>
    intro h5 ha
    have i0 := ih (by omega) (fun i hi => ha i (by omega))
    have hk := ha k (by omega)
    rw [p11]
    by_cases w : 3 ≤ k
    · rw [if_pos w]
      rcases (show k = 3 ∨ k = 4 by omega) with e | e
      · have := iab (i0.2.2.2 (by omega)) hk (by decide) (by decide)
        omega
      · have := iab (i0.2.2.1 (by omega)) hk (by decide) (by decide)
        omega
    · rw [if_neg w]; omega
theorem p9_zero (a : Nat → Nat → Int) (d : Nat → Nat) : ∀ k, p9 a d 0 k = 0 := by
  intro k
  induction k with
  | zero => rfl
  | succ k ih =>
    rw [p9, ih, Int.zero_mul]
    by_cases w : 3 ≤ k
    · rw [if_pos w]
    · rw [if_neg w]
theorem M_64 {I : SI} {N : Nat → Nat} {r v m : Nat} {d : Nat → Nat} (ho : OKT r N) (hv : v ≤ 2251) (hl : LinM N r v I) (hm : m ≤ r) (hd : ∀ i, i < m → I 12 i = nI (d i) ∧ d i < m) (v2 v4 : Int64) (v6 v7 : Int32) (s : Int) :
    lp_X9_isAbove_64 (nI m) v2 v4 v6 v7 I FU (iL s) 1 0 = some (iL (p9 (ent N r v) d s m), iL (p11 (ent N r v) d m)) := by
  obtain ⟨h1, h5, h9⟩ := id ho
  have e : lp_X9_isAbove_64 (nI m) v2 v4 v6 v7 I FU (iL (p9 (ent N r v) d s 0)) (iL (p11 (ent N r v) d 0)) (nI 0) = some (iL (p9 (ent N r v) d s m), iL (p11 (ent N r v) d m)) := by
    refine upLoop (fun n k => lp_X9_isAbove_64 (nI m) v2 v4 v6 v7 I n (iL (p9 (ent N r v) d s k)) (iL (p11 (ent N r v) d k)) (nI k)) m _ (fun n => ?_) (fun n k hk => ?_) m 0 FU (Nat.zero_add m) (FUlt (by omega))
    · show lp_X9_isAbove_64 (nI m) v2 v4 v6 v7 I (n + 1) _ _ (nI m) = _
      rw [lp_X9_isAbove_64.eq_2, if_pos (nI_le (Nat.le_refl _) (by omega))]
    · have a := hd k hk
      have b := ent_le ho hv (i := k) (j := d k) (by omega) (by omega)
      show lp_X9_isAbove_64 (nI m) v2 v4 v6 v7 I (n + 1) (iL (p9 (ent N r v) d s k)) (iL (p11 (ent N r v) d k)) (nI k) = lp_X9_isAbove_64 (nI m) v2 v4 v6 v7 I n (iL (p9 (ent N r v) d s (k + 1))) (iL (p11 (ent N r v) d (k + 1))) (nI (k + 1))
      rw [lp_X9_isAbove_64.eq_2, if_neg (le_nI (by omega) (by omega) (by omega)), p9, p11, show nI k + 1 = nI (k + 1) from nI_1 k, cl (show k < 2 ^ 31 by omega), a.1, n5, pk_mul, nI_add, cl (show 5 * k + d k < 2 ^ 31 by omega), hl k (d k) (by omega) (by omega), iI_L (by omega) (by omega), iL_mul, iL_mul, Int64.mul_one, Int64.mul_one, gd_inc (show k < 5 by omega) (by decide), gd_inc (show 5 * k + d k < 25 by omega) (by decide)]
      by_cases w : 3 ≤ k
      · rw [if_pos (show (3 : Int32) ≤ nI k from nI_le (a := 3) w (by omega)), if_pos (show (3 : Int32) ≤ nI k from nI_le (a := 3) w (by omega)), if_pos w, if_pos w]
      · rw [if_neg (show ¬ (3 : Int32) ≤ nI k from le_nI (a := 3) (by decide) (by omega) w), if_neg (show ¬ (3 : Int32) ≤ nI k from le_nI (a := 3) (by decide) (by omega) w), if_neg w, if_neg w]
        first | rfl | rw [gd_inc (show k < 5 by omega) (by decide), gd_inc (show 5 * k + d k < 25 by omega) (by decide)]
  exact e
theorem M_11 {m : Nat} (h5 : m ≤ 5) (v2 v4 : Int64) : lp_X9_isAbove_11 (nI m) v2 v4 FU 1 0 = some (nI (m ^ m)) := by
  have e : lp_X9_isAbove_11 (nI m) v2 v4 FU (nI (m ^ 0)) (nI 0) = some (nI (m ^ m)) := by
    refine upLoop (fun n k => lp_X9_isAbove_11 (nI m) v2 v4 n (nI (m ^ k)) (nI k)) m _ (fun n => ?_) (fun n k hk => ?_) m 0 FU (Nat.zero_add m) (FUlt h5)
    · show lp_X9_isAbove_11 (nI m) v2 v4 (n + 1) _ (nI m) = _
      rw [lp_X9_isAbove_11.eq_2, if_pos (nI_le (Nat.le_refl _) (by omega))]
    · show lp_X9_isAbove_11 (nI m) v2 v4 (n + 1) (nI (m ^ k)) (nI k) = lp_X9_isAbove_11 (nI m) v2 v4 n (nI (m ^ (k + 1))) (nI (k + 1))
      rw [lp_X9_isAbove_11.eq_2, if_neg (le_nI (by omega) (by omega) (by omega)), pk_mul, ← Nat.pow_succ, show nI k + 1 = nI (k + 1) from nI_1 k]
  exact e
theorem iL_div {a : Int} (h1 : -2 ^ 62 ≤ a) (h2 : a ≤ 2 ^ 62) : iL a / (1000000 : Int64) = iL (a.tdiv 1000000) := by
  have hb : -2 ^ 62 ≤ a.tdiv 1000000 ∧ a.tdiv 1000000 ≤ 2 ^ 62 := by
    have : (a.tdiv 1000000).natAbs ≤ a.natAbs := by rw [Int.natAbs_tdiv]; exact Nat.div_le_self _ _
    omega
  apply Int64.toInt_inj.mp
  rw [Int64.toInt_div, iL_toInt (by omega) (by omega), iL_toInt (by omega) (by omega)]
  show (a.tdiv 1000000).bmod (2 ^ 64) = _
  exact Int.bmod_eq_of_le (by omega) (by omega)
theorem iL_rem {a : Int} (h1 : -2 ^ 62 ≤ a) (h2 : a ≤ 2 ^ 62) : iL a - iL a / (1000000 : Int64) * (1000000 : Int64) = iL (a.tmod 1000000) := by
  rw [iL_div h1 h2, show (1000000 : Int64) = iL 1000000 from rfl, iL_mul, iL_sub, Int.tmod_def, Int.mul_comm (a.tdiv 1000000)]
noncomputable def f9 (N : Nat → Nat) (r v m u : Nat) : Int := p9 (ent N r v) (dg m u) (sgD (dg m u) m) m
noncomputable def f11 (N : Nat → Nat) (r v m u : Nat) : Int := p11 (ent N r v) (dg m u) m
noncomputable def hiZ (N : Nat → Nat) (r v m U : Nat) : Int := sm (fun u => (f9 N r v m u).tdiv 1000000 * f11 N r v m u) U
noncomputable def loZ (N : Nat → Nat) (r v m U : Nat) : Int := sm (fun u => (f9 N r v m u).tmod 1000000 * f11 N r v m u) U
theorem mm_le {m : Nat} (h1 : 1 ≤ m) (h5 : m ≤ 5) : m ^ m ≤ 3125 := by
  rcases (show m = 1 ∨ m = 2 ∨ m = 3 ∨ m = 4 ∨ m = 5 by omega) with rfl | rfl | rfl | rfl | rfl <;> decide
theorem f_le {N : Nat → Nat} {r v m : Nat} (ho : OKT r N) (hv : v ≤ 2251) (h1 : 1 ≤ m) (hm : m ≤ r) (u : Nat) : -11405979251 ≤ f9 N r v m u ∧ f9 N r v m u ≤ 11405979251 ∧ -5067001 ≤ f11 N r v m u ∧ f11 N r v m u ≤ 5067001 := by
  have h5 := ho.2.1
  have hb : ∀ i, i < m → -2251 ≤ ent N r v i (dg m u i) ∧ ent N r v i (dg m u i) ≤ 2251 := fun i hi => ent_le ho hv (by omega) (by have : dg m u i < m := Nat.mod_lt _ (by omega); omega)
  have a := p9_le (sgD_le (dg m u) m) m hb
  have b := p11_le m (by omega) hb
  exact ⟨a.1, a.2.1, b.1, b.2.1⟩
theorem hilo_le {N : Nat → Nat} {r v m : Nat} (ho : OKT r N) (hv : v ≤ 2251) (h1 : 1 ≤ m) (hm : m ≤ r) (U : Nat) (hU : U ≤ 3125) : (-200000000000000 ≤ hiZ N r v m U ∧ hiZ N r v m U ≤ 200000000000000) ∧ (-20000000000000000 ≤ loZ N r v m U ∧ loZ N r v m U ≤ 20000000000000000) := by
  have q1 : ∀ u, -11406 ≤ (f9 N r v m u).tdiv 1000000 ∧ (f9 N r v m u).tdiv 1000000 ≤ 11406 := fun u => by
    have a := f_le ho hv h1 hm u
    have b : ((f9 N r v m u).tdiv 1000000).natAbs = (f9 N r v m u).natAbs / 1000000 := by rw [Int.natAbs_tdiv]; rfl
    omega
  have q2 : ∀ u, -1000000 ≤ (f9 N r v m u).tmod 1000000 ∧ (f9 N r v m u).tmod 1000000 ≤ 1000000 := fun u => by
    have b : ((f9 N r v m u).tmod 1000000).natAbs = (f9 N r v m u).natAbs % 1000000 := by rw [Int.natAbs_tmod]; rfl
    omega
  have s1 := sm_le (fun u => (f9 N r v m u).tdiv 1000000 * f11 N r v m u) (11406 * 5067001) U (fun u _ => by
    have a := f_le ho hv h1 hm u
    exact iab (q1 u) ⟨a.2.2.1, a.2.2.2⟩ (by decide) (by decide))
  have s2 := sm_le (fun u => (f9 N r v m u).tmod 1000000 * f11 N r v m u) (1000000 * 5067001) U (fun u _ => by
    have a := f_le ho hv h1 hm u
    exact iab (q2 u) ⟨a.2.2.1, a.2.2.2⟩ (by decide) (by decide))
  unfold hiZ loZ
  refine ⟨by omega, by omega⟩
theorem hilo_sum (N : Nat → Nat) (r v m : Nat) : ∀ U, 1000000 * hiZ N r v m U + loZ N r v m U = sm (fun u => sgD (dg m u) m * pd (ent N r v) (dg m u) m) U := by
  intro U
  induction U with
  | zero => rfl
  | succ U ih =>
    rw [sm, ← ih]
    unfold hiZ loZ
    rw [sm, sm, ← p_pd]
    show 1000000 * (_ + _) + (_ + _) = _ + f9 N r v m U * f11 N r v m U
    have e := Int.mul_tdiv_add_tmod (f9 N r v m U) 1000000
    have e2 : f9 N r v m U * f11 N r v m U = 1000000 * ((f9 N r v m U).tdiv 1000000 * f11 N r v m U) + (f9 N r v m U).tmod 1000000 * f11 N r v m U := by
      rw [← Int.mul_assoc, ← Int.add_mul, e]
    rw [e2]
    omega
theorem M_32 {N : Nat → Nat} {r v m : Nat} (ho : OKT r N) (hv : v ≤ 2251) (h1 : 1 ≤ m) (hm : m ≤ r) {I : SI} (hl : LinM N r v I) : ∃ I', lp_X9_isAbove_32 (nI m) (nI (m ^ m)) FU 0 0 0 I = some (iL (hiZ N r v m (m ^ m)), iL (loZ N r v m (m ^ m)), I') ∧ Fr [12] I I' := by
  have h5 := ho.2.1
  have hmm := mm_le h1 (show m ≤ 5 by omega)
  have key : ∀ d u n (S : SI), u + d = m ^ m → d < n → Fr [12] I S → ∃ I', lp_X9_isAbove_32 (nI m) (nI (m ^ m)) n (iL (hiZ N r v m u)) (iL (loZ N r v m u)) (nI u) S = some (iL (hiZ N r v m (m ^ m)), iL (loZ N r v m (m ^ m)), I') ∧ Fr [12] I I' := by
    intro d
    induction d with
    | zero =>
      intro u n S hu hn hf
      obtain ⟨k, rfl⟩ : ∃ k, n = k + 1 := ⟨n - 1, by omega⟩
      have e : u = m ^ m := by omega
      exact ⟨S, by rw [lp_X9_isAbove_32.eq_2, e, if_pos (nI_le (Nat.le_refl _) (by omega))], hf⟩
    | succ d ih =>
      intro u n S hu hn hf
      obtain ⟨k, rfl⟩ : ∃ k, n = k + 1 := ⟨n - 1, by omega⟩
      obtain ⟨S1, e1, f1, g1⟩ := M_turn (I := S) h1 (show m ≤ 5 by omega) (show u < 100000 by omega)
      have hf1 := hf.trans f1
      obtain ⟨I', e2, f2⟩ := ih (u + 1) k S1 (by omega) (by omega) hf1
      refine ⟨I', ?_, f2⟩
      rw [← e2, lp_X9_isAbove_32.eq_2, if_neg (le_nI (by omega) (by omega) (by omega)), bd_ok e1, show nI u + 1 = nI (u + 1) from nI_1 u]
      have hsg := sgD_le (dg m u) m
      have hs1 : hiZ N r v m (u + 1) = hiZ N r v m u + (f9 N r v m u).tdiv 1000000 * f11 N r v m u := rfl
      have hs2 : loZ N r v m (u + 1) = loZ N r v m u + (f9 N r v m u).tmod 1000000 * f11 N r v m u := rfl
      by_cases w : sgD (dg m u) m = 0
      · have z : f9 N r v m u = 0 := by unfold f9; rw [w]; exact p9_zero _ _ _
        rw [z, Int.zero_tdiv, Int.zero_mul, Int.add_zero] at hs1
        rw [z, Int.zero_tmod, Int.zero_mul, Int.add_zero] at hs2
        rw [hs1, hs2]
        exact if_pos (by rw [w]; rfl)
      · refine (if_neg (fun q => w ?_)).trans ?_
        · have := congrArg Int32.toInt q
          rw [iI_toInt (by omega) (by omega)] at this
          exact this
        · have hl1 : LinM N r v S1 := fun i j hi hj => by rw [hf1 11 (by decide)]; exact hl i j hi hj
          have e64 := M_64 (d := dg m u) ho hv hl1 hm (fun i hi => ⟨g1 i hi, Nat.mod_lt _ (by omega)⟩) (iL (hiZ N r v m u)) (iL (loZ N r v m u)) (nI (m ^ m)) (nI u) (sgD (dg m u) m)
          have b := f_le ho hv h1 hm u
          rw [iI_L (by omega) (by omega), bd_ok e64, hs1, hs2, ← iL_add, ← iL_add, ← iL_mul, ← iL_mul, ← iL_div (show -2 ^ 62 ≤ f9 N r v m u by omega) (by omega), ← iL_rem (show -2 ^ 62 ≤ f9 N r v m u by omega) (by omega)]
          rfl
  exact key (m ^ m) 0 FU I (Nat.zero_add _) (by unfold FU; omega) Fr.rf
theorem iL_nz {a : Int} (h1 : -2 ^ 63 ≤ a) (h2 : a < 2 ^ 63) (b : Int) (h3 : -2 ^ 63 ≤ b) (h4 : b < 2 ^ 63) : (lg_cmp (iL a) (iL b) = 0) ↔ a = b := by
  rw [lg_cmp_eq]
  constructor
  · intro q
    have := congrArg Int64.toInt q
    rw [iL_toInt h1 h2, iL_toInt h3 h4] at this
    exact this
  · intro q; rw [q]
theorem M_above {N : Nat → Nat} {r v m : Nat} (ho : OKT r N) (hv : v ≤ 2251) (h1 : 1 ≤ m) (hm : m ≤ r) {I : SI} (hl : LinM N r v I) : ∃ I', f_X9_isAbove (nI m) I = some (nI (bP (0 < Ex (ent N r v) m (2 ^ m - 1))), I') ∧ Fr [12] I I' := by
  have h5 := ho.2.1
  have hmm := mm_le h1 (show m ≤ 5 by omega)
  obtain ⟨I', e, f⟩ := M_32 ho hv h1 hm hl
  refine ⟨I', ?_, f⟩
  unfold f_X9_isAbove
  rw [bd_ok (M_11 (show m ≤ 5 by omega) 0 0), bd_ok e]
  show (if 0 < (lg_cmp (iL (hiZ N r v m (m ^ m)) + (iL (loZ N r v m (m ^ m)) / (1000000 : Int64))) (0 : Int64)) then _ else _) = _
  obtain ⟨b1, b2⟩ := hilo_le ho hv h1 hm (m ^ m) hmm
  have hs := hilo_sum N r v m (m ^ m)
  rw [← laplace (ent N r v) h1 (show m ≤ 5 by omega)] at hs
  generalize hiZ N r v m (m ^ m) = H at hs b1 ⊢
  generalize loZ N r v m (m ^ m) = L at hs b2 ⊢
  generalize Ex (ent N r v) m (2 ^ m - 1) = E at hs ⊢
  rw [iL_rem (by omega) (by omega), iL_div (by omega) (by omega), iL_add]
  have dm := Int.mul_tdiv_add_tmod L 1000000
  have a1 : (L.tdiv 1000000).natAbs = L.natAbs / 1000000 := by rw [Int.natAbs_tdiv]; rfl
  have a2 : (L.tmod 1000000).natAbs = L.natAbs % 1000000 := by rw [Int.natAbs_tmod]; rfl
  generalize L.tdiv 1000000 = Q at dm a1 ⊢
  generalize L.tmod 1000000 = R at dm a2 ⊢
  have hE : E = 1000000 * (H + Q) + R := by omega
  have bR : -1000000 < R ∧ R < 1000000 := by omega
  have bQ : -2 ^ 62 ≤ H + Q ∧ H + Q ≤ 2 ^ 62 := by omega
  generalize H + Q = T at hE bQ ⊢
  clear hs a1 a2 dm
  have pT := iL_pos (a := T) (by omega) (by omega)
  have pR := iL_pos (a := R) (by omega) (by omega)
  have zT : (lg_cmp (iL T) 0 = 0) ↔ T = 0 := iL_nz (by omega) (by omega) 0 (by decide) (by decide)
  have oT : (lg_cmp (iL T) 1 = 0) ↔ T = 1 := iL_nz (by omega) (by omega) 1 (by decide) (by decide)
  by_cases y : 0 < E
  · rw [bP1 y]
    by_cases w : 0 < T
    · rw [if_pos (pT.mpr w)]; rfl
    · have w0 : T = 0 := by omega
      rw [if_neg (fun q => w (pT.mp q)), if_pos (zT.mpr w0), if_pos (pR.mpr (by omega))]; rfl
  · rw [bP0 y]
    have w : ¬ 0 < T := by omega
    rw [if_neg (fun q => w (pT.mp q))]
    have wo : ¬ T = 1 := by omega
    by_cases w0 : T = 0
    · rw [if_pos (zT.mpr w0), if_neg (fun q => y (by have := pR.mp q; omega)), if_neg (fun q => wo (oT.mp q))]; rfl
    · rw [if_neg (fun q => w0 (zT.mp q)), if_neg (fun q => wo (oT.mp q))]; rfl
theorem M_below {I : SI} {t r v : Nat} {N : Nat → Nat} (ht : t < 7) (h : TM I t r N) (ho : OKT r N) (hv : v ≤ 2251) : ∃ I', f_X9_isBelow (nI t) (nI v) I = some (nI (bP (Pos N r v)), I') ∧ Fr [11, 12] I I' := by
  obtain ⟨h1, h5, h9⟩ := id ho
  obtain ⟨I1, e1, f1, g1⟩ := M_lines ht h ho hv
  have t1 := h.fr f1 (by decide) (by decide)
  have key : ∀ d m n (S : SI), m + d = r + 1 → d < n → 1 ≤ m → Fr [12] I1 S → (∀ i, 1 ≤ i → i < m → 0 < Ex (ent N r v) i (2 ^ i - 1)) → ∃ I', lp_X9_isBelow_11 (nI t) n 1 (nI m) S = some (nI (bP (Pos N r v)), I') ∧ Fr [12] I1 I' := by
    intro d
    induction d with
    | zero =>
      intro m n S hmd hn hm1 hf hw
      obtain ⟨k, rfl⟩ : ∃ k, n = k + 1 := ⟨n - 1, by omega⟩
      have u := t1.fr hf (by decide) (by decide)
      refine ⟨S, ?_, hf⟩
      rw [lp_X9_isBelow_11.eq_2, gd_in ht (by decide), cl (by omega), u.1, if_pos (nI_lt (by omega) (by omega)), bP1 (fun i hi hir => hw i hi (by omega))]
      rfl
    | succ d ih =>
      intro m n S hmd hn hm1 hf hw
      obtain ⟨k, rfl⟩ : ∃ k, n = k + 1 := ⟨n - 1, by omega⟩
      have u := t1.fr hf (by decide) (by decide)
      obtain ⟨S1, e2, f2⟩ := M_above (m := m) ho hv hm1 (by omega) (I := S) (fun i j hi hj => by rw [hf 11 (by decide)]; exact g1 i j hi hj)
      have hf2 := hf.trans f2
      have st : lp_X9_isBelow_11 (nI t) (k + 1) 1 (nI m) S = lp_X9_isBelow_11 (nI t) k (nI (bP (0 < Ex (ent N r v) m (2 ^ m - 1)))) (nI (m + 1)) S1 := by
        rw [lp_X9_isBelow_11.eq_2, gd_in ht (by decide), cl (by omega), u.1, if_neg (nI_nlt (by omega) (by omega)), if_neg (by decide), bd_ok e2, show nI m + 1 = nI (m + 1) from nI_1 m]
      rw [st]
      by_cases w : 0 < Ex (ent N r v) m (2 ^ m - 1)
      · rw [bP1 w]
        exact ih (m + 1) k S1 (by omega) (by omega) (by omega) hf2 (fun i hi him => by
          by_cases z : i = m
          · rw [z]; exact w
          · exact hw i hi (by omega))
      · rw [bP0 w, bP0 (P := Pos N r v) (fun y => w (y m hm1 (by omega)))]
        obtain ⟨k', rfl⟩ : ∃ k', k = k' + 1 := ⟨k - 1, by omega⟩
        have u2 := t1.fr hf2 (by decide) (by decide)
        refine ⟨S1, ?_, hf2⟩
        rw [lp_X9_isBelow_11.eq_2, gd_in ht (by decide), cl (by omega), u2.1]
        by_cases z : r < m + 1
        · rw [if_pos (nI_lt (by omega) (by omega))]
        · rw [if_neg (nI_nlt (by omega) (by omega)), if_pos (show nI 0 = 0 from rfl)]
  obtain ⟨I2, e2, f2⟩ := key r 1 FU I1 (by omega) (by unfold FU; omega) (by decide) Fr.rf (fun i a b => by omega)
  refine ⟨I2, ?_, (f1.mono (by simp)).trans (f2.mono (by simp))⟩
  unfold f_X9_isBelow
  rw [bd_ok e1, bd_ok (show lp_X9_isBelow_11 (nI t) FU 1 1 I1 = _ from e2)]
  show gd (¬ (nI (bP (Pos N r v)) = 0 ∨ nI (bP (Pos N r v)) = 1)) _ = _
  rcases bP_c (Pos N r v) with ⟨_, e⟩ | ⟨_, e⟩ <;> rw [e] <;> rfl
theorem M_size27 {I : SI} {t r : Nat} {N : Nat → Nat} (ht : t < 7) (h : TM I t r N) (ho : OKT r N) : ∀ k lo hi n (S : SI), lo ≤ hi → hi ≤ 2251 → hi - lo ≤ 2 ^ k → k < n → Fr [11, 12] I S → ∃ I', lp_X9_size_27 (nI t) n (nI lo) (nI hi) S = some (nI (bis (Pos N r) k lo hi), I') ∧ Fr [11, 12] I I' := by
  have stop : ∀ k lo hi n (S : SI), lo ≤ hi → hi ≤ 2251 → hi - lo ≤ 1 → k < n → Fr [11, 12] I S → ∃ I', lp_X9_size_27 (nI t) n (nI lo) (nI hi) S = some (nI (bis (Pos N r) k lo hi), I') ∧ Fr [11, 12] I I' := by
    intro k lo hi n S hlo hhi hd hn hf
    obtain ⟨m, rfl⟩ : ∃ m, n = m + 1 := ⟨n - 1, by omega⟩
    refine ⟨S, ?_, hf⟩
    rw [lp_X9_size_27.eq_2, pk_sub hlo, if_pos (show nI (hi - lo) ≤ 1 from nI_le (b := 1) hd (by decide)), bis_stop _ hd]
  intro k
  induction k with
  | zero =>
    intro lo hi n S hlo hhi hd hn hf
    exact stop 0 lo hi n S hlo hhi hd hn hf
  | succ k ih =>
    intro lo hi n S hlo hhi hd hn hf
    by_cases w : hi - lo ≤ 1
    · exact stop (k + 1) lo hi n S hlo hhi w hn hf
    · obtain ⟨m, rfl⟩ : ∃ m, n = m + 1 := ⟨n - 1, by omega⟩
      have hk2 : 2 ^ (k + 1) = 2 ^ k * 2 := Nat.pow_succ 2 k
      have u := h.fr hf (by decide) (by decide)
      obtain ⟨S1, e1, f1⟩ := M_below (v := (lo + hi) / 2) ht u ho (by omega)
      have hf1 := hf.trans f1
      rw [lp_X9_size_27.eq_2, pk_sub hlo, if_neg (show ¬ nI (hi - lo) ≤ 1 from le_nI (b := 1) (by omega) (by decide) w), nI_add, n2, pk_div (by omega) (by omega) (by omega), bd_ok e1, bis, if_neg w]
      by_cases y : bP (Pos N r ((lo + hi) / 2)) = 0
      · rw [if_pos y]
        obtain ⟨I', e2, f2⟩ := ih ((lo + hi) / 2) hi m S1 (by omega) hhi (by omega) (by omega) hf1
        exact ⟨I', (if_pos ((nI_b0 _).mpr y)).trans e2, f2⟩
      · rw [if_neg y]
        obtain ⟨I', e2, f2⟩ := ih lo ((lo + hi) / 2) m S1 (by omega) (by omega) (by omega) (by omega) hf1
        exact ⟨I', (if_neg (fun z => y ((nI_b0 _).mp z))).trans e2, f2⟩
theorem op_size {Lst : SI → Prop} (hL : LFr Lst) {IB IM : SI} (JB : SJ) (h : Rel Lst IB IM) (a : Int32) : ∃ v IB' JB' IM', f_X8_size a IB JB = some (v, IB', JB') ∧ f_X9_size a IM = some (v, IM') ∧ Rel Lst IB' IM' := by
  rcases pick a 6 (by decide) with ⟨t, ht, rfl⟩ | ha
  · obtain ⟨r, N, IB', IM', ho, hB, hM, hB', hM', e1, e2, hR, g1, g2, hp, f1, f2⟩ := op_right hL h ht
    by_cases hr : Right r N
    · have er := e_isRightB ht e1
      rw [if_pos hr] at er e2
      obtain ⟨I1, J1, e3, f3⟩ := B_tenths JB (show t < 8 by omega) hB' ho
      obtain ⟨I2, e4, f4⟩ := M_size27 (show t < 7 by omega) hM' ho 12 0 2251 FU IM' (by decide) (by decide) (by decide) (by decide) Fr.rf
      refine ⟨nI (bis (Pos N r) 12 0 2251), I1, J1, I2, ?_, ?_, (hR.frB hL f3 rfl).frM (FrM.of f4 (by decide) (by decide) (by decide) (by decide))⟩
      · unfold f_X8_size
        rw [bd_ok (e_isTable_in ht), if_neg (by decide), bd_ok er]
        refine (if_neg (by decide)).trans ?_
        rw [gd6 ht, cl (by omega), bd_ok e3]
      · unfold f_X9_size
        rw [bd_ok (e_noTable_in ht), if_pos rfl, bd_ok e2]
        refine (if_neg (by decide)).trans ?_
        rw [bd_ok (show lp_X9_size_27 (nI t) FU 0 2251 IM' = _ from e4)]
    · have er := e_isRightB ht e1
      rw [if_neg hr] at er e2
      refine ⟨-3, IB', JB, IM', ?_, ?_, hR⟩
      · unfold f_X8_size
        rw [bd_ok (e_isTable_in ht), if_neg (by decide), bd_ok er]
        exact if_pos rfl
      · unfold f_X9_size
        rw [bd_ok (e_noTable_in ht), if_pos rfl, bd_ok e2]
        exact if_pos rfl
  · refine ⟨-2, IB, JB, IM, ?_, ?_, h⟩
    · unfold f_X8_size
      rw [bd_ok (e_isTable_out ha), if_pos rfl]
    · unfold f_X9_size
      rw [bd_ok (e_noTable_out ha), if_neg (by decide)]
