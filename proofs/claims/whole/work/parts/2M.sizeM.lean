/-! SIZE: the reference's side, and the call -/
def LinM (N : Nat → Nat) (r v : Nat) (I : SI) : Prop := ∀ i j, i < r → j < r → I 11 (5 * i + j) = iI (ent N r v i j)
theorem M_lines {I : SI} {t r v : Nat} {N : Nat → Nat} (ht : t < 7) (h : TM I t r N) (ho : OKT r N) (hv : v ≤ 2251) : ∃ I', f_X9_layLines (nI t) (nI v) I = some I' ∧ Fr [11] I I' ∧ LinM N r v I' := by
  obtain ⟨h1, h5, h9⟩ := id ho
  have e32 : ∀ (S : SI) i j, TM S t r N → i < r → j < r → lp_X9_layLines_32 (nI t) (nI v) (nI i) (nI j) S FU 0 0 = some (nI (mS N r i j)) := by
    intro S i j hS hi hj
    have e : lp_X9_layLines_32 (nI t) (nI v) (nI i) (nI j) S FU (nI (sN (fun k => nn N k i j) 0)) (nI 0) = some (nI (mS N r i j)) := by
      refine upLoop (fun m k => lp_X9_layLines_32 (nI t) (nI v) (nI i) (nI j) S m (nI (sN (fun k => nn N k i j) k)) (nI k)) r _ (fun m => ?_) (fun m k hk => ?_) r 0 FU (Nat.zero_add r) (FUlt h5)
      · show lp_X9_layLines_32 (nI t) (nI v) (nI i) (nI j) S (m + 1) _ (nI r) = _
        rw [lp_X9_layLines_32.eq_2, gd_in ht (by decide), cl (by omega), hS.1, if_pos (nI_le (Nat.le_refl _) (by omega))]
        rfl
      · have e := M_num hS ht (i := k) (j := i) (k := j) (by omega) (by omega) (by omega)
        show lp_X9_layLines_32 (nI t) (nI v) (nI i) (nI j) S (m + 1) _ (nI k) = lp_X9_layLines_32 (nI t) (nI v) (nI i) (nI j) S m _ (nI (k + 1))
        rw [lp_X9_layLines_32.eq_2, gd_in ht (by decide), cl (by omega), hS.1, if_neg (le_nI (by omega) (by omega) (by omega)), bd_ok e, nI_add, show nI k + 1 = nI (k + 1) from nI_1 k]
        rfl
    exact e
  have e15 : ∀ (S : SI) i, i < r → Fr [11] I S → (∀ a b, a < r → b < r → 5 * a + b < 5 * i + 0 → S 11 (5 * a + b) = iI (ent N r v a b)) → ∃ o, lp_X9_layLines_15 (nI t) (nI v) (nI i) FU 0 S = some o ∧ Fr [11] I o ∧ ∀ a b, a < r → b < r → 5 * a + b < 5 * i + r → o 11 (5 * a + b) = iI (ent N r v a b) := by
    intro S i hi hS hw
    refine exLoop (fun n j s => lp_X9_layLines_15 (nI t) (nI v) (nI i) n (nI j) s) r (fun j s => Fr [11] I s ∧ ∀ a b, a < r → b < r → 5 * a + b < 5 * i + j → s 11 (5 * a + b) = iI (ent N r v a b)) _ (fun n s hs => ?_) (fun n j s hj hs => ?_) r 0 FU S (Nat.zero_add r) (FUlt h5) ⟨hS, hw⟩
    · have u := h.fr hs.1 (by decide) (by decide)
      refine ⟨s, ?_, hs⟩
      show lp_X9_layLines_15 (nI t) (nI v) (nI i) (n + 1) (nI r) s = _
      rw [lp_X9_layLines_15.eq_2, gd_in ht (by decide), cl (by omega), u.1, if_pos (nI_le (Nat.le_refl _) (by omega))]
    · have u := h.fr hs.1 (by decide) (by decide)
      refine ⟨ups s 11 (5 * i + j) (iI (ent N r v i j)), ?_, hs.1.ups (by simp), fun a b ha hb hab => ?_⟩
      · show lp_X9_layLines_15 (nI t) (nI v) (nI i) (n + 1) (nI j) s = lp_X9_layLines_15 (nI t) (nI v) (nI i) n (nI (j + 1)) _
        rw [lp_X9_layLines_15.eq_2, gd_in ht (by decide), cl (show t < 2 ^ 31 by omega), u.1, if_neg (le_nI (by omega) (by omega) (by omega)), bd_ok (e32 s i j u hi hj), n5, pk_mul, nI_add, gd_in (show 5 * i + j < 25 by omega) (by decide), cl (show 5 * i + j < 2 ^ 31 by omega), gd_inc (show 5 * i + j < 25 by omega) (by decide), show nI j + 1 = nI (j + 1) from nI_1 j, n10, pk_mul]
        by_cases e : i = j
        · rw [if_pos (by rw [e]), show nI v - nI (10 * mS N r i j) = iI ((v : Int) - (10 * mS N r i j : Nat)) by rw [nI_iI v, nI_iI (10 * _), iI_sub]]
          congr 2
          unfold ent
          rw [if_pos e]
          congr 1
        · rw [if_neg (fun q => e ((nI_eq (by omega) (by omega)).mp q)), show (0 : Int32) = iI 0 from rfl, nI_iI (10 * _), iI_sub]
          congr 2
          unfold ent
          rw [if_neg e]
          congr 1
      · rw [ups_at]
        by_cases e : 5 * a + b = 5 * i + j
        · rw [if_pos e, show a = i by omega, show b = j by omega]
        · rw [if_neg e]; exact hs.2 a b ha hb (by omega)
  have e2 : ∃ o, lp_X9_layLines_2 (nI t) (nI v) FU 0 I = some o ∧ Fr [11] I o ∧ LinM N r v o := by
    refine exLoop (fun n i s => lp_X9_layLines_2 (nI t) (nI v) n (nI i) s) r (fun i s => Fr [11] I s ∧ ∀ a b, a < r → b < r → 5 * a + b < 5 * i + 0 → s 11 (5 * a + b) = iI (ent N r v a b)) _ (fun n s hs => ?_) (fun n i s hi hs => ?_) r 0 FU I (Nat.zero_add r) (FUlt h5) ⟨Fr.rf, fun a b _ _ q => by omega⟩
    · have u := h.fr hs.1 (by decide) (by decide)
      refine ⟨s, ?_, hs.1, fun a b ha hb => hs.2 a b ha hb (by omega)⟩
      show lp_X9_layLines_2 (nI t) (nI v) (n + 1) (nI r) s = _
      rw [lp_X9_layLines_2.eq_2, gd_in ht (by decide), cl (by omega), u.1, if_pos (nI_le (Nat.le_refl _) (by omega))]
    · have u := h.fr hs.1 (by decide) (by decide)
      obtain ⟨o, e, f, g⟩ := e15 s i hi hs.1 hs.2
      refine ⟨o, ?_, f, fun a b ha hb hab => g a b ha hb (by omega)⟩
      show lp_X9_layLines_2 (nI t) (nI v) (n + 1) (nI i) s = lp_X9_layLines_2 (nI t) (nI v) n (nI (i + 1)) o
      rw [lp_X9_layLines_2.eq_2, gd_in ht (by decide), cl (by omega), u.1, if_neg (le_nI (by omega) (by omega) (by omega)), bd_ok e, show nI i + 1 = nI (i + 1) from nI_1 i]
  obtain ⟨o, e, f, g⟩ := e2
  refine ⟨o, ?_, f, g⟩
  unfold f_X9_layLines
  rw [bd_ok e]
theorem ps_le (d : Nat → Nat) (j : Nat) : ∀ k, -1 ≤ ps d j k ∧ ps d j k ≤ 1 := by
  intro k
  induction k with
  | zero => exact ⟨show -(1 : Int) ≤ 1 by decide, show (1 : Int) ≤ 1 by decide⟩
  | succ k ih =>
    have c : -1 ≤ cp (d k) (d j) ∧ cp (d k) (d j) ≤ 1 := by
      unfold cp
      by_cases a : d k = d j
      · rw [if_pos a]; decide
      · rw [if_neg a]
        by_cases b : d k ≤ d j
        · rw [if_pos b]; decide
        · rw [if_neg b]; decide
    rw [ps]
    exact iab ih c (by decide) (by decide)
theorem sgD_le (d : Nat → Nat) : ∀ k, -1 ≤ sgD d k ∧ sgD d k ≤ 1 := by
  intro k
  induction k with
  | zero => exact ⟨show -(1 : Int) ≤ 1 by decide, show (1 : Int) ≤ 1 by decide⟩
  | succ k ih => rw [sgD]; exact iab ih (ps_le d k k) (by decide) (by decide)
theorem M_turn31 {I : SI} {m j : Nat} {d : Nat → Nat} (v3 : Int32) (hj : j < 5) (hd : ∀ i, i ≤ j → I 12 i = nI (d i) ∧ d i < 5) (z : Int) : lp_X9_layTurn_31 (nI m) v3 (nI j) I FU (iI z) 0 = some (iI (z * ps d j j)) := by
  have e : lp_X9_layTurn_31 (nI m) v3 (nI j) I FU (iI (z * ps d j 0)) (nI 0) = some (iI (z * ps d j j)) := by
    refine upLoop (fun n k => lp_X9_layTurn_31 (nI m) v3 (nI j) I n (iI (z * ps d j k)) (nI k)) j _ (fun n => ?_) (fun n k hk => ?_) j 0 FU (Nat.zero_add j) (FUlt (by omega))
    · show lp_X9_layTurn_31 (nI m) v3 (nI j) I (n + 1) _ (nI j) = _
      rw [lp_X9_layTurn_31.eq_2, if_pos (nI_le (Nat.le_refl _) (by omega))]
    · have a := hd k (by omega)
      have b := hd j (by omega)
      show lp_X9_layTurn_31 (nI m) v3 (nI j) I (n + 1) (iI (z * ps d j k)) (nI k) = lp_X9_layTurn_31 (nI m) v3 (nI j) I n (iI (z * ps d j (k + 1))) (nI (k + 1))
      rw [lp_X9_layTurn_31.eq_2, if_neg (le_nI (by omega) (by omega) (by omega)), gd_in (show k < 5 by omega) (by decide), gd_in hj (by decide), cl (show k < 2 ^ 31 by omega), cl (show j < 2 ^ 31 by omega), a.1, b.1, show nI k + 1 = nI (k + 1) from nI_1 k, gd_inc (show k < 5 by omega) (by decide), gd_inc hj (by decide), ps]
      unfold cp
      by_cases w : d k = d j
      · rw [if_pos (by rw [w]), if_pos w, Int.mul_zero, Int.mul_zero]; rfl
      · rw [if_neg (fun q => w ((nI_eq (by omega) (by omega)).mp q)), if_neg w]
        by_cases y : d k ≤ d j
        · rw [if_pos (nI_le y (by omega)), if_pos y, Int.mul_one]
        · rw [if_neg (le_nI (by omega) (by omega) y), if_neg y, show (0 : Int32) = iI 0 from rfl, iI_sub, Int.zero_sub, Int.mul_neg, Int.mul_one, Int.mul_neg]
  rw [show z * ps d j 0 = z from Int.mul_one z] at e
  exact e
theorem M_turn {I : SI} {m u : Nat} (h1 : 1 ≤ m) (h5 : m ≤ 5) (hu : u < 100000) : ∃ I', f_X9_layTurn (nI m) (nI u) I = some (iI (sgD (dg m u) m), I') ∧ Fr [12] I I' ∧ ∀ i, i < m → I' 12 i = nI (dg m u i) := by
  have dlt : ∀ i, dg m u i < m := fun i => Nat.mod_lt _ (by omega)
  have key : ∀ d j n (S : SI), j + d = m → d < n → Fr [12] I S → (∀ i, i < j → S 12 i = nI (dg m u i)) → ∃ I', lp_X9_layTurn_8 (nI m) n (nI (u / m ^ j)) (iI (sgD (dg m u) j)) (nI j) S = some (iI (sgD (dg m u) m), I') ∧ Fr [12] I I' ∧ ∀ i, i < m → I' 12 i = nI (dg m u i) := by
    intro d
    induction d with
    | zero =>
      intro j n S hj hn hf hw
      obtain ⟨k, rfl⟩ : ∃ k, n = k + 1 := ⟨n - 1, by omega⟩
      have e : j = m := by omega
      subst e
      exact ⟨S, by rw [lp_X9_layTurn_8.eq_2, if_pos (nI_le (Nat.le_refl _) (by omega))], hf, hw⟩
    | succ d ih =>
      intro j n S hj hn hf hw
      obtain ⟨k, rfl⟩ : ∃ k, n = k + 1 := ⟨n - 1, by omega⟩
      have hb : u / m ^ j < 2 ^ 31 := by have := Nat.div_le_self u (m ^ j); omega
      have hw2 : ∀ i, i ≤ j → (ups S 12 j (nI (dg m u j))) 12 i = nI (dg m u i) ∧ dg m u i < 5 := fun i hi => by
        refine ⟨?_, by have := dlt i; omega⟩
        rw [ups_at]
        by_cases e : i = j
        · rw [if_pos e, e]
        · rw [if_neg e]; exact hw i (by omega)
      obtain ⟨I', e, f, g⟩ := ih (j + 1) k (ups S 12 j (nI (dg m u j))) (by omega) (by omega) (hf.ups (by simp)) (fun i hi => (hw2 i (by omega)).1)
      refine ⟨I', ?_, f, g⟩
      rw [lp_X9_layTurn_8.eq_2, if_neg (le_nI (by omega) (by omega) (by omega)), gd_nz (by omega) (by omega), gd_in (show j < 5 by omega) (by decide), gd_nz (by omega) (by omega), cl (show j < 2 ^ 31 by omega), pk_rem hb (by omega) (by omega), pk_div hb (by omega) (by omega), bd_ok (show lp_X9_layTurn_31 (nI m) (nI (u / m ^ j / m)) (nI j) (ups S 12 j (nI (u / m ^ j % m))) FU (iI (sgD (dg m u) j)) 0 = _ from M_turn31 _ (by omega) hw2 _), show nI j + 1 = nI (j + 1) from nI_1 j, Nat.div_div_eq_div_mul, ← Nat.pow_succ]
      exact e
  obtain ⟨I', e, f, g⟩ := key m 0 FU I (by omega) (FUlt h5) Fr.rf (fun i hi => by omega)
  refine ⟨I', ?_, f, g⟩
  unfold f_X9_layTurn
  rw [Nat.pow_zero, Nat.div_one] at e
  rw [bd_ok (show lp_X9_layTurn_8 (nI m) FU (nI u) 1 0 I = _ from e)]
def p9 (a : Nat → Nat → Int) (d : Nat → Nat) (s : Int) : Nat → Int
  | 0 => s
  | k + 1 => if 3 ≤ k then p9 a d s k else p9 a d s k * a k (d k)
def p11 (a : Nat → Nat → Int) (d : Nat → Nat) : Nat → Int
  | 0 => 1
  | k + 1 => if 3 ≤ k then p11 a d k * a k (d k) else p11 a d k
theorem p_pd (a : Nat → Nat → Int) (d : Nat → Nat) (s : Int) : ∀ k, p9 a d s k * p11 a d k = s * pd a d k := by
  intro k
  induction k with
  | zero => rfl
  | succ k ih =>
    rw [p9, p11, pd]
    by_cases w : 3 ≤ k
    · rw [if_pos w, if_pos w, ← Int.mul_assoc, ih, Int.mul_assoc]
    · rw [if_neg w, if_neg w, ← Int.mul_assoc, ← ih, Int.mul_assoc, Int.mul_assoc, Int.mul_comm (a k (d k))]
theorem p9_le {a : Nat → Nat → Int} {d : Nat → Nat} {s : Int} (hs : -1 ≤ s ∧ s ≤ 1) : ∀ k, (∀ i, i < k → -2251 ≤ a i (d i) ∧ a i (d i) ≤ 2251) → -11405979251 ≤ p9 a d s k ∧ p9 a d s k ≤ 11405979251 ∧ (k ≤ 2 → -5067001 ≤ p9 a d s k ∧ p9 a d s k ≤ 5067001) ∧ (k ≤ 1 → -2251 ≤ p9 a d s k ∧ p9 a d s k ≤ 2251) ∧ (k = 0 → -1 ≤ p9 a d s k ∧ p9 a d s k ≤ 1) := by
  intro k
  induction k with
  | zero => intro _; rw [p9]; omega
  | succ k ih =>
    intro ha
    have i0 := ih (fun i hi => ha i (by omega))
    have hk := ha k (by omega)
    rw [p9]
    by_cases w : 3 ≤ k
    · rw [if_pos w]; omega
    · rw [if_neg w]
      rcases (show k = 0 ∨ k = 1 ∨ k = 2 by omega) with e | e | e
      · have := iab (i0.2.2.2.2 e) hk (by decide) (by decide)
        omega
      · have := iab (i0.2.2.2.1 (by omega)) hk (by decide) (by decide)
        omega
      · have := iab (i0.2.2.1 (by omega)) hk (by decide) (by decide)
        omega
theorem p11_le {a : Nat → Nat → Int} {d : Nat → Nat} : ∀ k, k ≤ 5 → (∀ i, i < k → -2251 ≤ a i (d i) ∧ a i (d i) ≤ 2251) → -5067001 ≤ p11 a d k ∧ p11 a d k ≤ 5067001 ∧ (k ≤ 4 → -2251 ≤ p11 a d k ∧ p11 a d k ≤ 2251) ∧ (k ≤ 3 → -1 ≤ p11 a d k ∧ p11 a d k ≤ 1) := by
  intro k
  induction k with
  | zero => intro _ _; rw [p11]; omega
  | succ k ih =>
    intro h5 ha
    have i0 := ih (by omega) (fun i hi => ha i (by omega))
    have hk := ha k (by omega)
    rw [p11]
    by_cases w : 3 ≤ k
    · rw [if_pos w]
      rcases (show k = 3 ∨ k = 4 by omega) with e | e
      · have := iab (i0.2.2.2 (by omega)) hk (by decide) (by decide)
        omega
      · have := iab (i0.2.2.1 (by omega)) hk (by decide) (by decide)
        omega
    · rw [if_neg w]; omega
theorem p9_zero (a : Nat → Nat → Int) (d : Nat → Nat) : ∀ k, p9 a d 0 k = 0 := by
  intro k
  induction k with
  | zero => rfl
  | succ k ih =>
    rw [p9, ih, Int.zero_mul]
    by_cases w : 3 ≤ k
    · rw [if_pos w]
    · rw [if_neg w]
theorem M_64 {I : SI} {N : Nat → Nat} {r v m : Nat} {d : Nat → Nat} (ho : OKT r N) (hv : v ≤ 2251) (hl : LinM N r v I) (hm : m ≤ r) (hd : ∀ i, i < m → I 12 i = nI (d i) ∧ d i < m) (v2 v4 : Int64) (v6 v7 : Int32) (s : Int) :
    lp_X9_isAbove_64 (nI m) v2 v4 v6 v7 I FU (iL s) 1 0 = some (iL (p9 (ent N r v) d s m), iL (p11 (ent N r v) d m)) := by
  obtain ⟨h1, h5, h9⟩ := id ho
  have e : lp_X9_isAbove_64 (nI m) v2 v4 v6 v7 I FU (iL (p9 (ent N r v) d s 0)) (iL (p11 (ent N r v) d 0)) (nI 0) = some (iL (p9 (ent N r v) d s m), iL (p11 (ent N r v) d m)) := by
    refine upLoop (fun n k => lp_X9_isAbove_64 (nI m) v2 v4 v6 v7 I n (iL (p9 (ent N r v) d s k)) (iL (p11 (ent N r v) d k)) (nI k)) m _ (fun n => ?_) (fun n k hk => ?_) m 0 FU (Nat.zero_add m) (FUlt (by omega))
    · show lp_X9_isAbove_64 (nI m) v2 v4 v6 v7 I (n + 1) _ _ (nI m) = _
      rw [lp_X9_isAbove_64.eq_2, if_pos (nI_le (Nat.le_refl _) (by omega))]
    · have a := hd k hk
      have b := ent_le ho hv (i := k) (j := d k) (by omega) (by omega)
      show lp_X9_isAbove_64 (nI m) v2 v4 v6 v7 I (n + 1) (iL (p9 (ent N r v) d s k)) (iL (p11 (ent N r v) d k)) (nI k) = lp_X9_isAbove_64 (nI m) v2 v4 v6 v7 I n (iL (p9 (ent N r v) d s (k + 1))) (iL (p11 (ent N r v) d (k + 1))) (nI (k + 1))
      rw [lp_X9_isAbove_64.eq_2, if_neg (le_nI (by omega) (by omega) (by omega)), p9, p11, show nI k + 1 = nI (k + 1) from nI_1 k, cl (show k < 2 ^ 31 by omega), a.1, n5, pk_mul, nI_add, cl (show 5 * k + d k < 2 ^ 31 by omega), hl k (d k) (by omega) (by omega), iI_L (by omega) (by omega), iL_mul, iL_mul, Int64.mul_one, Int64.mul_one, gd_inc (show k < 5 by omega) (by decide), gd_inc (show 5 * k + d k < 25 by omega) (by decide)]
      by_cases w : 3 ≤ k
      · rw [if_pos (show (3 : Int32) ≤ nI k from nI_le (a := 3) w (by omega)), if_pos (show (3 : Int32) ≤ nI k from nI_le (a := 3) w (by omega)), if_pos w, if_pos w]
      · rw [if_neg (show ¬ (3 : Int32) ≤ nI k from le_nI (a := 3) (by decide) (by omega) w), if_neg (show ¬ (3 : Int32) ≤ nI k from le_nI (a := 3) (by decide) (by omega) w), if_neg w, if_neg w]
        first | rfl | rw [gd_inc (show k < 5 by omega) (by decide), gd_inc (show 5 * k + d k < 25 by omega) (by decide)]
  exact e
theorem M_11 {m : Nat} (h5 : m ≤ 5) (v2 v4 : Int64) : lp_X9_isAbove_11 (nI m) v2 v4 FU 1 0 = some (nI (m ^ m)) := by
  have e : lp_X9_isAbove_11 (nI m) v2 v4 FU (nI (m ^ 0)) (nI 0) = some (nI (m ^ m)) := by
    refine upLoop (fun n k => lp_X9_isAbove_11 (nI m) v2 v4 n (nI (m ^ k)) (nI k)) m _ (fun n => ?_) (fun n k hk => ?_) m 0 FU (Nat.zero_add m) (FUlt h5)
    · show lp_X9_isAbove_11 (nI m) v2 v4 (n + 1) _ (nI m) = _
      rw [lp_X9_isAbove_11.eq_2, if_pos (nI_le (Nat.le_refl _) (by omega))]
    · show lp_X9_isAbove_11 (nI m) v2 v4 (n + 1) (nI (m ^ k)) (nI k) = lp_X9_isAbove_11 (nI m) v2 v4 n (nI (m ^ (k + 1))) (nI (k + 1))
      rw [lp_X9_isAbove_11.eq_2, if_neg (le_nI (by omega) (by omega) (by omega)), pk_mul, ← Nat.pow_succ, show nI k + 1 = nI (k + 1) from nI_1 k]
  exact e
theorem iL_div {a : Int} (h1 : -2 ^ 62 ≤ a) (h2 : a ≤ 2 ^ 62) : iL a / (1000000 : Int64) = iL (a.tdiv 1000000) := by
  have hb : -2 ^ 62 ≤ a.tdiv 1000000 ∧ a.tdiv 1000000 ≤ 2 ^ 62 := by
    have : (a.tdiv 1000000).natAbs ≤ a.natAbs := by rw [Int.natAbs_tdiv]; exact Nat.div_le_self _ _
    omega
  apply Int64.toInt_inj.mp
  rw [Int64.toInt_div, iL_toInt (by omega) (by omega), iL_toInt (by omega) (by omega)]
  show (a.tdiv 1000000).bmod (2 ^ 64) = _
  exact Int.bmod_eq_of_le (by omega) (by omega)
theorem iL_rem {a : Int} (h1 : -2 ^ 62 ≤ a) (h2 : a ≤ 2 ^ 62) : iL a - iL a / (1000000 : Int64) * (1000000 : Int64) = iL (a.tmod 1000000) := by
  rw [iL_div h1 h2, show (1000000 : Int64) = iL 1000000 from rfl, iL_mul, iL_sub, Int.tmod_def, Int.mul_comm (a.tdiv 1000000)]
noncomputable def f9 (N : Nat → Nat) (r v m u : Nat) : Int := p9 (ent N r v) (dg m u) (sgD (dg m u) m) m
noncomputable def f11 (N : Nat → Nat) (r v m u : Nat) : Int := p11 (ent N r v) (dg m u) m
noncomputable def hiZ (N : Nat → Nat) (r v m U : Nat) : Int := sm (fun u => (f9 N r v m u).tdiv 1000000 * f11 N r v m u) U
noncomputable def loZ (N : Nat → Nat) (r v m U : Nat) : Int := sm (fun u => (f9 N r v m u).tmod 1000000 * f11 N r v m u) U
theorem mm_le {m : Nat} (h1 : 1 ≤ m) (h5 : m ≤ 5) : m ^ m ≤ 3125 := by
  rcases (show m = 1 ∨ m = 2 ∨ m = 3 ∨ m = 4 ∨ m = 5 by omega) with rfl | rfl | rfl | rfl | rfl <;> decide
theorem f_le {N : Nat → Nat} {r v m : Nat} (ho : OKT r N) (hv : v ≤ 2251) (h1 : 1 ≤ m) (hm : m ≤ r) (u : Nat) : -11405979251 ≤ f9 N r v m u ∧ f9 N r v m u ≤ 11405979251 ∧ -5067001 ≤ f11 N r v m u ∧ f11 N r v m u ≤ 5067001 := by
  have h5 := ho.2.1
  have hb : ∀ i, i < m → -2251 ≤ ent N r v i (dg m u i) ∧ ent N r v i (dg m u i) ≤ 2251 := fun i hi => ent_le ho hv (by omega) (by have : dg m u i < m := Nat.mod_lt _ (by omega); omega)
  have a := p9_le (sgD_le (dg m u) m) m hb
  have b := p11_le m (by omega) hb
  exact ⟨a.1, a.2.1, b.1, b.2.1⟩
theorem hilo_le {N : Nat → Nat} {r v m : Nat} (ho : OKT r N) (hv : v ≤ 2251) (h1 : 1 ≤ m) (hm : m ≤ r) (U : Nat) (hU : U ≤ 3125) : (-200000000000000 ≤ hiZ N r v m U ∧ hiZ N r v m U ≤ 200000000000000) ∧ (-20000000000000000 ≤ loZ N r v m U ∧ loZ N r v m U ≤ 20000000000000000) := by
  have q1 : ∀ u, -11406 ≤ (f9 N r v m u).tdiv 1000000 ∧ (f9 N r v m u).tdiv 1000000 ≤ 11406 := fun u => by
    have a := f_le ho hv h1 hm u
    have b : ((f9 N r v m u).tdiv 1000000).natAbs = (f9 N r v m u).natAbs / 1000000 := by rw [Int.natAbs_tdiv]; rfl
    omega
  have q2 : ∀ u, -1000000 ≤ (f9 N r v m u).tmod 1000000 ∧ (f9 N r v m u).tmod 1000000 ≤ 1000000 := fun u => by
    have b : ((f9 N r v m u).tmod 1000000).natAbs = (f9 N r v m u).natAbs % 1000000 := by rw [Int.natAbs_tmod]; rfl
    omega
  have s1 := sm_le (fun u => (f9 N r v m u).tdiv 1000000 * f11 N r v m u) (11406 * 5067001) U (fun u _ => by
    have a := f_le ho hv h1 hm u
    exact iab (q1 u) ⟨a.2.2.1, a.2.2.2⟩ (by decide) (by decide))
  have s2 := sm_le (fun u => (f9 N r v m u).tmod 1000000 * f11 N r v m u) (1000000 * 5067001) U (fun u _ => by
    have a := f_le ho hv h1 hm u
    exact iab (q2 u) ⟨a.2.2.1, a.2.2.2⟩ (by decide) (by decide))
  unfold hiZ loZ
  refine ⟨by omega, by omega⟩
theorem hilo_sum (N : Nat → Nat) (r v m : Nat) : ∀ U, 1000000 * hiZ N r v m U + loZ N r v m U = sm (fun u => sgD (dg m u) m * pd (ent N r v) (dg m u) m) U := by
  intro U
  induction U with
  | zero => rfl
  | succ U ih =>
    rw [sm, ← ih]
    unfold hiZ loZ
    rw [sm, sm, ← p_pd]
    show 1000000 * (_ + _) + (_ + _) = _ + f9 N r v m U * f11 N r v m U
    have e := Int.mul_tdiv_add_tmod (f9 N r v m U) 1000000
    have e2 : f9 N r v m U * f11 N r v m U = 1000000 * ((f9 N r v m U).tdiv 1000000 * f11 N r v m U) + (f9 N r v m U).tmod 1000000 * f11 N r v m U := by
      rw [← Int.mul_assoc, ← Int.add_mul, e]
    rw [e2]
    omega
