/-! WORDS and WAYS -/
def sL (f : Nat → Int64) : Nat → Int64
  | 0 => 0
  | n + 1 => sL f n + f n
theorem sL_congr {f g : Nat → Int64} : ∀ r, (∀ x, x < r → f x = g x) → sL f r = sL g r := by
  intro r
  induction r with
  | zero => intro _; rfl
  | succ r ih => intro h; rw [sL, sL, ih (fun x hx => h x (by omega)), h r (by omega)]
/-- a sum fused with KIND x -/
def fuS (N : Nat → Nat) (r x : Nat) (S : Nat → Int64) : Nat → Int64 := fun k => if k < r then sL (fun j => S j * (nI (nn N j x k)).toInt64) r else S k
def stS (i : Nat) : Nat → Int64 := fun k => if k = i then 1 else 0
theorem gd_inc {α : Type} {c n : Nat} {x : Option α} (h : c < n) (hn : n < 2 ^ 31) : gd (nI c < 0 ∨ n ≤ c) x = x := gd_ok (by have := nI_in h hn; rw [cl (by omega)] at this; exact this)
theorem e_fillJ (J : SJ) (k n : Nat) (v : Int64) (hn : n < 40000) : ∃ J', f_J7_fillJ k n v J = some J' ∧ ∀ j, j < n → J' k j = v := by
  have e : ∃ o, lp_J7_fillJ_6 k n v (nI n) FU (nI 0) J = some o ∧ ∀ j, j < n → o k j = v := by
    refine exLoop (fun m j s => lp_J7_fillJ_6 k n v (nI n) m (nI j) s) n (fun j s => ∀ q, q < j → s k q = v) _ (fun m s h => ?_) (fun m j s hj h => ?_) n 0 FU _ (Nat.zero_add n) (by unfold FU; omega) (fun q hq => by omega)
    · refine ⟨s, ?_, h⟩
      show lp_J7_fillJ_6 k n v (nI n) (m + 1) (nI n) _ = _
      rw [lp_J7_fillJ_6.eq_2, if_pos (nI_le (Nat.le_refl _) (by omega))]
    · refine ⟨upj s k j v, ?_, fun q hq => ?_⟩
      · show lp_J7_fillJ_6 k n v (nI n) (m + 1) (nI j) _ = _
        rw [lp_J7_fillJ_6.eq_2, if_neg (le_nI (by omega) (by omega) (by omega)), gd_in hj (by omega), cl (by omega), n1, nI_add]
      · rw [upj_at]
        by_cases e : q = j
        · rw [if_pos e]
        · rw [if_neg e]; exact h q (by omega)
  obtain ⟨J', e, h⟩ := e
  refine ⟨J', ?_, h⟩
  unfold f_J7_fillJ
  rw [bd_ok (show lp_J7_fillJ_6 k n v (nI n) FU 0 J = some J' from e)]
theorem B_start {i : Nat} (hi : i < 5) (J : SJ) : ∃ J', f_X6_begin (nI i) J = some J' ∧ ∀ k, k < 5 → J' 34 k = stS i k := by
  obtain ⟨J1, e, h⟩ := e_fillJ J 34 5 0 (by decide)
  refine ⟨upj J1 34 i 1, ?_, fun k hk => ?_⟩
  · unfold f_X6_begin
    rw [bd_ok e, gd_in hi (by decide), cl (by omega)]
  · rw [upj_at, stS]
    by_cases q : k = i
    · rw [if_pos q, if_pos q]
    · rw [if_neg q, if_neg q]; exact h k hk
theorem M_start {i : Nat} (hi : i < 5) (t : Int32) (J : SJ) : ∃ J', f_X9_start t (nI i) J = some J' ∧ ∀ k, k < 5 → J' 7 k = stS i k := by
  have e : ∃ o, lp_X9_start_2 (nI i) FU (nI 0) J = some o ∧ ∀ k, k < 5 → o 7 k = stS i k := by
    refine exLoop (fun m j s => lp_X9_start_2 (nI i) m (nI j) s) 5 (fun j s => ∀ q, q < j → s 7 q = stS i q) _ (fun m s h => ?_) (fun m j s hj h => ?_) 5 0 FU _ rfl (by decide) (fun q hq => by omega)
    · refine ⟨s, ?_, h⟩
      show lp_X9_start_2 (nI i) (m + 1) (nI 5) s = _
      rw [lp_X9_start_2.eq_2, if_pos (by decide)]
    · by_cases q : j = i
      · refine ⟨upj s 7 j 1, ?_, fun z hz => ?_⟩
        · show lp_X9_start_2 (nI i) (m + 1) (nI j) s = _
          rw [lp_X9_start_2.eq_2, if_neg (show ¬ 5 ≤ nI j from le_nI (a := 5) (by decide) (by omega) (by omega)), if_pos (by rw [q]), gd_in hj (by decide), cl (by omega), show nI j + 1 = nI (j + 1) from nI_1 j]
        · rw [upj_at, stS]
          by_cases w : z = j
          · rw [if_pos w, if_pos (by omega)]
          · rw [if_neg w]; have := h z (by omega); rw [stS] at this; exact this
      · refine ⟨upj s 7 j 0, ?_, fun z hz => ?_⟩
        · show lp_X9_start_2 (nI i) (m + 1) (nI j) s = _
          rw [lp_X9_start_2.eq_2, if_neg (show ¬ 5 ≤ nI j from le_nI (a := 5) (by decide) (by omega) (by omega)), if_neg (eq_nI (by omega) (by omega) q), gd_in hj (by decide), cl (by omega), show nI j + 1 = nI (j + 1) from nI_1 j]
        · rw [upj_at, stS]
          by_cases w : z = j
          · rw [if_pos w, if_neg (by omega)]
          · rw [if_neg w]; have := h z (by omega); rw [stS] at this; exact this
  obtain ⟨J', e, h⟩ := e
  refine ⟨J', ?_, h⟩
  unfold f_X9_start
  rw [bd_ok (show lp_X9_start_2 (nI i) FU 0 J = some J' from e)]
theorem B_fuse_in {I : SI} {x r : Nat} {N : Nat → Nat} (h : TB I x r N) (ho : OKT r N) {c k : Nat} (hc : c < r) (hk : k < r) (J : SJ) (h0 : J 35 k = 0) : ∃ J', lp_X6_fuseWith_20 x (nI c) (nI k) I FU 0 J = some J' ∧ J' 34 = J 34 ∧ (∀ q, q ≠ k → J' 35 q = J 35 q) ∧ J' 35 k = sL (fun j => J 34 j * (nI (nn N j c k)).toInt64) r := by
  obtain ⟨h1, h5, h9⟩ := id ho
  refine exLoop (fun m j s => lp_X6_fuseWith_20 x (nI c) (nI k) I m (nI j) s) r (fun j s => s 34 = J 34 ∧ (∀ q, q ≠ k → s 35 q = J 35 q) ∧ s 35 k = sL (fun j => J 34 j * (nI (nn N j c k)).toInt64) j) _ (fun m s q => ?_) (fun m j s hj q => ?_) r 0 FU _ (Nat.zero_add r) (FUlt h5) ⟨rfl, fun _ _ => rfl, h0⟩
  · refine ⟨s, ?_, q⟩
    show lp_X6_fuseWith_20 x (nI c) (nI k) I (m + 1) (nI r) s = _
    rw [lp_X6_fuseWith_20.eq_2, h.1, if_pos (nI_le (Nat.le_refl _) (by omega))]
  · have e1 := B_num h (i := j) (j := c) (k := k) (by omega) (by omega) (by omega)
    refine ⟨upj s 35 k (s 35 k + s 34 j * (nI (nn N j c k)).toInt64), ?_, by rw [upj_id (by decide)]; exact q.1, fun z hz => by rw [upj_at, if_neg hz]; exact q.2.1 z hz, ?_⟩
    · show lp_X6_fuseWith_20 x (nI c) (nI k) I (m + 1) (nI j) s = _
      rw [lp_X6_fuseWith_20.eq_2, h.1, if_neg (le_nI (by omega) (by omega) (by omega)), gd_in (show k < 5 by omega) (by decide), gd_in (show j < 5 by omega) (by decide), bd_ok e1, cl (show k < 2 ^ 31 by omega), cl (show j < 2 ^ 31 by omega), gd_inc (show k < 5 by omega) (by decide), show nI j + 1 = nI (j + 1) from nI_1 j]
    · rw [upj_at, if_pos rfl, q.2.2, q.1]
      rfl
theorem B_fuse_lp {I : SI} {x r : Nat} {N : Nat → Nat} (h : TB I x r N) (ho : OKT r N) {c : Nat} (hc : c < r) (J : SJ) : ∃ J', lp_X6_fuseWith_2 x (nI c) I FU 0 J = some J' ∧ J' 34 = J 34 ∧ ∀ k, k < r → J' 35 k = sL (fun j => J 34 j * (nI (nn N j c k)).toInt64) r := by
  obtain ⟨h1, h5, h9⟩ := id ho
  refine exLoop (fun m k s => lp_X6_fuseWith_2 x (nI c) I m (nI k) s) r (fun k s => s 34 = J 34 ∧ ∀ q, q < k → s 35 q = sL (fun j => J 34 j * (nI (nn N j c q)).toInt64) r) _ (fun m s q => ?_) (fun m k s hk q => ?_) r 0 FU _ (Nat.zero_add r) (FUlt h5) ⟨rfl, fun _ hq => by omega⟩
  · refine ⟨s, ?_, q⟩
    show lp_X6_fuseWith_2 x (nI c) I (m + 1) (nI r) s = _
    rw [lp_X6_fuseWith_2.eq_2, h.1, if_pos (nI_le (Nat.le_refl _) (by omega))]
  · obtain ⟨J', e, q1, q2, q3⟩ := B_fuse_in h ho hc hk (upj s 35 k 0) (by rw [upj_at, if_pos rfl])
    refine ⟨J', ?_, by rw [q1, upj_id (by decide)]; exact q.1, fun z hz => ?_⟩
    · show lp_X6_fuseWith_2 x (nI c) I (m + 1) (nI k) s = _
      rw [lp_X6_fuseWith_2.eq_2, h.1, if_neg (le_nI (by omega) (by omega) (by omega)), gd_in (show k < 5 by omega) (by decide), cl (show k < 2 ^ 31 by omega), bd_ok e, show nI k + 1 = nI (k + 1) from nI_1 k]
    · by_cases w : z = k
      · rw [w, q3, upj_id (by decide), q.1]
      · rw [q2 z w, upj_at, if_neg w]
        exact q.2 z (by omega)
theorem M_fuse_in {I : SI} {t r : Nat} {N : Nat → Nat} (h : TM I t r N) (ht : t < 7) (ho : OKT r N) {c k : Nat} (hc : c < r) (hk : k < r) (J : SJ) (h0 : J 8 k = 0) : ∃ J', lp_X9_fuse_22 (nI t) (nI c) (nI k) I FU 0 J = some J' ∧ J' 7 = J 7 ∧ (∀ q, q ≠ k → J' 8 q = J 8 q) ∧ J' 8 k = sL (fun j => J 7 j * (nI (nn N j c k)).toInt64) r := by
  obtain ⟨h1, h5, h9⟩ := id ho
  refine exLoop (fun m j s => lp_X9_fuse_22 (nI t) (nI c) (nI k) I m (nI j) s) r (fun j s => s 7 = J 7 ∧ (∀ q, q ≠ k → s 8 q = J 8 q) ∧ s 8 k = sL (fun j => J 7 j * (nI (nn N j c k)).toInt64) j) _ (fun m s q => ?_) (fun m j s hj q => ?_) r 0 FU _ (Nat.zero_add r) (FUlt h5) ⟨rfl, fun _ _ => rfl, h0⟩
  · refine ⟨s, ?_, q⟩
    show lp_X9_fuse_22 (nI t) (nI c) (nI k) I (m + 1) (nI r) s = _
    rw [lp_X9_fuse_22.eq_2, gd_in ht (by decide), cl (show t < 2 ^ 31 by omega), h.1, if_pos (nI_le (Nat.le_refl _) (by omega))]
  · have e1 := M_num h ht (i := j) (j := c) (k := k) (by omega) (by omega) (by omega)
    refine ⟨upj s 8 k (s 8 k + s 7 j * (nI (nn N j c k)).toInt64), ?_, by rw [upj_id (by decide)]; exact q.1, fun z hz => by rw [upj_at, if_neg hz]; exact q.2.1 z hz, ?_⟩
    · show lp_X9_fuse_22 (nI t) (nI c) (nI k) I (m + 1) (nI j) s = _
      rw [lp_X9_fuse_22.eq_2, gd_in ht (by decide), cl (show t < 2 ^ 31 by omega), h.1, if_neg (le_nI (by omega) (by omega) (by omega)), gd_in (show k < 5 by omega) (by decide), gd_in (show j < 5 by omega) (by decide), bd_ok e1, cl (show k < 2 ^ 31 by omega), cl (show j < 2 ^ 31 by omega), gd_inc (show k < 5 by omega) (by decide), show nI j + 1 = nI (j + 1) from nI_1 j]
    · rw [upj_at, if_pos rfl, q.2.2, q.1]
      rfl
theorem M_fuse_lp {I : SI} {t r : Nat} {N : Nat → Nat} (h : TM I t r N) (ht : t < 7) (ho : OKT r N) {c : Nat} (hc : c < r) (J : SJ) : ∃ J', lp_X9_fuse_2 (nI t) (nI c) I FU 0 J = some J' ∧ J' 7 = J 7 ∧ ∀ k, k < r → J' 8 k = sL (fun j => J 7 j * (nI (nn N j c k)).toInt64) r := by
  obtain ⟨h1, h5, h9⟩ := id ho
  refine exLoop (fun m k s => lp_X9_fuse_2 (nI t) (nI c) I m (nI k) s) r (fun k s => s 7 = J 7 ∧ ∀ q, q < k → s 8 q = sL (fun j => J 7 j * (nI (nn N j c q)).toInt64) r) _ (fun m s q => ?_) (fun m k s hk q => ?_) r 0 FU _ (Nat.zero_add r) (FUlt h5) ⟨rfl, fun _ hq => by omega⟩
  · refine ⟨s, ?_, q⟩
    show lp_X9_fuse_2 (nI t) (nI c) I (m + 1) (nI r) s = _
    rw [lp_X9_fuse_2.eq_2, gd_in ht (by decide), cl (show t < 2 ^ 31 by omega), h.1, if_pos (nI_le (Nat.le_refl _) (by omega))]
  · obtain ⟨J', e, q1, q2, q3⟩ := M_fuse_in h ht ho hc hk (upj s 8 k 0) (by rw [upj_at, if_pos rfl])
    refine ⟨J', ?_, by rw [q1, upj_id (by decide)]; exact q.1, fun z hz => ?_⟩
    · show lp_X9_fuse_2 (nI t) (nI c) I (m + 1) (nI k) s = _
      rw [lp_X9_fuse_2.eq_2, gd_in ht (by decide), cl (show t < 2 ^ 31 by omega), h.1, if_neg (le_nI (by omega) (by omega) (by omega)), gd_in (show k < 5 by omega) (by decide), cl (show k < 2 ^ 31 by omega), bd_ok e, show nI k + 1 = nI (k + 1) from nI_1 k]
    · by_cases w : z = k
      · rw [w, q3, upj_id (by decide), q.1]
      · rw [q2 z w, upj_at, if_neg w]
        exact q.2 z (by omega)
theorem B_fuse {I : SI} {x r : Nat} {N : Nat → Nat} (h : TB I x r N) (ho : OKT r N) {c : Nat} (hc : c < r) (J : SJ) (S : Nat → Int64) (hS : ∀ k, k < 5 → J 34 k = S k) : ∃ J', f_X6_fuseWith x (nI c) I J = some J' ∧ ∀ k, k < 5 → J' 34 k = fuS N r c S k := by
  obtain ⟨h1, h5, h9⟩ := id ho
  obtain ⟨J1, e, q1, q2⟩ := B_fuse_lp h ho hc J
  unfold f_X6_fuseWith
  rw [bd_ok e, h.1, gd_ok, cl (by omega)]
  · refine ⟨_, rfl, fun k hk => ?_⟩
    rw [va_up_self, fuS, show (0 : Int32).toNatClampNeg = 0 from rfl]
    by_cases w : k < r
    · rw [if_pos w, pk_cpy_in (Nat.zero_le _) (by omega), show 0 + (k - 0) = k by omega, q2 k w]
      exact sL_congr r (fun j hj => by rw [hS j (by omega)])
    · rw [if_neg w, pk_cpy_out (Or.inr (by omega)), q1]
      exact hS k hk
  · rw [cl (by omega), show (0 : Int32).toNatClampNeg = 0 from rfl]
    rintro (q | q | q | q | q)
    · exact absurd q (by decide)
    · exact absurd q (by decide)
    · exact nI_pos (by omega) q
    · omega
    · omega
theorem M_fuse {I : SI} {t r : Nat} {N : Nat → Nat} (h : TM I t r N) (ht : t < 7) (ho : OKT r N) {c : Nat} (hc : c < r) (J : SJ) (S : Nat → Int64) (hS : ∀ k, k < 5 → J 7 k = S k) : ∃ J', f_X9_fuse (nI t) (nI c) I J = some J' ∧ ∀ k, k < 5 → J' 7 k = fuS N r c S k := by
  obtain ⟨h1, h5, h9⟩ := id ho
  obtain ⟨J1, e, q1, q2⟩ := M_fuse_lp h ht ho hc J
  have e2 : ∃ o, lp_X9_fuse_74 (nI t) I FU (nI 0) J1 = some o ∧ ∀ k, k < 5 → o 7 k = fuS N r c S k := by
    refine exLoop (fun m k s => lp_X9_fuse_74 (nI t) I m (nI k) s) r (fun k s => s 8 = J1 8 ∧ (∀ q, k ≤ q → s 7 q = J1 7 q) ∧ ∀ q, q < k → s 7 q = fuS N r c S q) _ (fun m s q => ?_) (fun m k s hk q => ?_) r 0 FU _ (Nat.zero_add r) (FUlt h5) ⟨rfl, fun _ _ => rfl, fun _ hq => by omega⟩
    · refine ⟨s, ?_, fun k hk => ?_⟩
      · show lp_X9_fuse_74 (nI t) I (m + 1) (nI r) s = _
        rw [lp_X9_fuse_74.eq_2, gd_in ht (by decide), cl (by omega), h.1, if_pos (nI_le (Nat.le_refl _) (by omega))]
      · by_cases w : k < r
        · exact q.2.2 k w
        · rw [q.2.1 k (by omega), fuS, if_neg w, q1]
          exact hS k hk
    · refine ⟨upj s 7 k (s 8 k), ?_, by rw [upj_id (by decide)]; exact q.1, fun z hz => by rw [upj_at, if_neg (by omega)]; exact q.2.1 z (by omega), fun z hz => ?_⟩
      · show lp_X9_fuse_74 (nI t) I (m + 1) (nI k) s = _
        rw [lp_X9_fuse_74.eq_2, gd_in ht (by decide), cl (show t < 2 ^ 31 by omega), h.1, if_neg (le_nI (by omega) (by omega) (by omega)), gd_in (show k < 5 by omega) (by decide), gd_in (show k < 5 by omega) (by decide), cl (by omega), show nI k + 1 = nI (k + 1) from nI_1 k]
      · rw [upj_at]
        by_cases w : z = k
        · rw [if_pos w, w, q.1, q2 k hk, fuS, if_pos hk]
          exact sL_congr r (fun j hj => by rw [hS j (by omega)])
        · rw [if_neg w]; exact q.2.2 z (by omega)
  obtain ⟨J', e2, h2⟩ := e2
  refine ⟨J', ?_, h2⟩
  unfold f_X9_fuse
  rw [bd_ok e, bd_ok (show lp_X9_fuse_74 (nI t) I FU 0 J1 = some J' from e2)]
section O3
variable {Lst : SI → Prop}
def wyS (N : Nat → Nat) (r x : Nat) (S : Nat → Int64) : Nat → Nat → Int64
  | 0 => S
  | n + 1 => fuS N r x (wyS N r x S n)
theorem op_ways {IB IM : SI} (h : Rel Lst IB IM) (JB JM : SJ) (t i x n j : Int32) : ∃ a JB' JM', f_X8_ways t i x n j IB JB = some (a, JB') ∧ f_X9_ways t i x n j IM JM = some (a, JM') := by
  rcases e_place h.1 t i x j with ⟨hb, hm⟩ | ⟨t', i', x', j', r, N, rfl, rfl, rfl, rfl, ht, hi, hx, hj, ho, hB, hM, b1, m0, m1, m2, m3⟩
  · have eb : f_X8_ways t i x n j IB JB = some (-2, JB) := by
      unfold f_X8_ways
      rw [bd_ok hb, if_pos rfl]
    refine ⟨-2, JB, JM, eb, ?_⟩
    unfold f_X9_ways
    rcases hm with hm | ⟨q0, hm⟩
    · rw [bd_ok hm, if_neg (by decide)]
    rw [bd_ok q0, if_pos rfl]
    rcases hm with hm | ⟨q1, hm⟩
    · rw [bd_ok hm, if_pos rfl]
    rw [bd_ok q1, if_neg (by decide)]
    rcases hm with hm | ⟨q2, hm⟩
    · rw [bd_ok hm, if_pos rfl]
    rw [bd_ok q2, if_neg (by decide)]
    rcases e_in9 n 0 12 (by decide) (by decide) with ⟨w, _, hw, rfl, e⟩ | ⟨hv, e⟩
    · rw [bd_ok (show f_X9_in (nI w).toInt64 0 12 = some 1 from e), if_neg (by decide), bd_ok hm, if_pos rfl]
    · rw [bd_ok (show f_X9_in n.toInt64 0 12 = some 0 from e), if_pos rfl]
  · obtain ⟨h1, h5, h9⟩ := id ho
    rcases e_in9 n 0 12 (by decide) (by decide) with ⟨w, _, hw, rfl, e⟩ | ⟨hv, e⟩
    · obtain ⟨JB1, e1, q1⟩ := B_start (i := i') (by omega) JB
      obtain ⟨JM1, e2, q2⟩ := M_start (i := i') (by omega) (nI t') JM
      have eb : ∃ o, lp_X8_ways_39 (nI t') (nI x') (nI w) (nI j') IB FU (nI 0) JB1 = some o ∧ ∀ k, k < 5 → o 34 k = wyS N r x' (stS i') w k := by
        refine exLoop (fun m q s => lp_X8_ways_39 (nI t') (nI x') (nI w) (nI j') IB m (nI q) s) w (fun q s => ∀ k, k < 5 → s 34 k = wyS N r x' (stS i') q k) _ (fun m s q => ?_) (fun m q s hq z => ?_) w 0 FU _ (Nat.zero_add w) (by unfold FU; omega) q1
        · refine ⟨s, ?_, q⟩
          show lp_X8_ways_39 (nI t') (nI x') (nI w) (nI j') IB (m + 1) (nI w) s = _
          rw [lp_X8_ways_39.eq_2, if_pos (nI_le (Nat.le_refl _) (by omega))]
        · obtain ⟨J2, e3, z3⟩ := B_fuse hB ho hx s _ z
          refine ⟨J2, ?_, z3⟩
          show lp_X8_ways_39 (nI t') (nI x') (nI w) (nI j') IB (m + 1) (nI q) s = _
          rw [lp_X8_ways_39.eq_2, if_neg (le_nI (by omega) (by omega) (by omega)), gd6 ht, cl (by omega), bd_ok e3, show nI q + 1 = nI (q + 1) from nI_1 q]
      have em : ∃ o, lp_X9_ways_61 (nI t') (nI x') (nI w) (nI j') IM FU (nI 0) JM1 = some o ∧ ∀ k, k < 5 → o 7 k = wyS N r x' (stS i') w k := by
        refine exLoop (fun m q s => lp_X9_ways_61 (nI t') (nI x') (nI w) (nI j') IM m (nI q) s) w (fun q s => ∀ k, k < 5 → s 7 k = wyS N r x' (stS i') q k) _ (fun m s q => ?_) (fun m q s hq z => ?_) w 0 FU _ (Nat.zero_add w) (by unfold FU; omega) q2
        · refine ⟨s, ?_, q⟩
          show lp_X9_ways_61 (nI t') (nI x') (nI w) (nI j') IM (m + 1) (nI w) s = _
          rw [lp_X9_ways_61.eq_2, if_pos (nI_le (Nat.le_refl _) (by omega))]
        · obtain ⟨J2, e3, z3⟩ := M_fuse hM (by omega) ho hx s _ z
          refine ⟨J2, ?_, z3⟩
          show lp_X9_ways_61 (nI t') (nI x') (nI w) (nI j') IM (m + 1) (nI q) s = _
          rw [lp_X9_ways_61.eq_2, if_neg (le_nI (by omega) (by omega) (by omega)), bd_ok e3, show nI q + 1 = nI (q + 1) from nI_1 q]
      obtain ⟨JB2, eb, qb⟩ := eb
      obtain ⟨JM2, em, qm⟩ := em
      refine ⟨wyS N r x' (stS i') w j', JB2, JM2, ?_, ?_⟩
      · unfold f_X8_ways
        rw [bd_ok b1, if_neg (by decide), if_neg (show ¬ nI w < 0 from nI_pos (by omega)), if_pos (show nI w ≤ 12 from nI_le (b := 12) hw (by decide)), bd_ok e1, bd_ok (show lp_X8_ways_39 (nI t') (nI x') (nI w) (nI j') IB FU 0 JB1 = some JB2 from eb), gd_in (by omega) (by decide), cl (by omega), qb j' (by omega)]
      · unfold f_X9_ways
        rw [bd_ok m0, if_pos rfl, bd_ok m1, if_neg (by decide), bd_ok m2, if_neg (by decide), bd_ok (show f_X9_in (nI w).toInt64 0 12 = some 1 from e), if_neg (by decide), bd_ok m3, if_neg (by decide), bd_ok e2, bd_ok (show lp_X9_ways_61 (nI t') (nI x') (nI w) (nI j') IM FU 0 JM1 = some JM2 from em), gd_in (by omega) (by decide), cl (by omega), qm j' (by omega)]
    · refine ⟨-2, JB, JM, ?_, ?_⟩
      · unfold f_X8_ways
        rw [bd_ok b1, if_neg (by decide)]
        by_cases q : n < 0
        · rw [if_pos q]
        · rw [if_neg q, if_neg (show ¬ n ≤ 12 from hv.resolve_left q)]
      · unfold f_X9_ways
        rw [bd_ok m0, if_pos rfl, bd_ok m1, if_neg (by decide), bd_ok m2, if_neg (by decide), bd_ok (show f_X9_in n.toInt64 0 12 = some 0 from e), if_pos rfl]
/-- the word's KINDS as a row -/
def wdS (N : Nat → Nat) (r : Nat) (w : Nat → Nat) : Nat → Nat → Int64
  | 0 => stS 0
  | n + 1 => fuS N r (w n) (wdS N r w n)
theorem op_fused {IB IM : SI} (h : Rel Lst IB IM) (JB JM : SJ) (t k : Int32) : ∃ a JB' JM', f_X8_fused t k IB JB = some (a, JB') ∧ f_X9_fused t k IM JM = some (a, JM') := by
  obtain ⟨n, w1, w2, w3, w4⟩ := h.2.1
  rcases pick t 6 (by decide) with ⟨t', ht, rfl⟩ | ht
  · obtain ⟨r, N, ho, hB, hM⟩ := h.1 t' ht
    obtain ⟨h1, h5, h9⟩ := id ho
    rcases pick k r (by omega) with ⟨k', hk, rfl⟩ | hk
    · -- the word as natural numbers
      have hw : ∃ w : Nat → Nat, ∀ j, j < n → w j < 5 ∧ IB 33 j = nI (w j) ∧ IM 6 j = nI (w j) := by
        refine ⟨fun j => (IB 33 j).toNatClampNeg, fun j hj => ?_⟩
        obtain ⟨q, a, b, c⟩ := w4 j hj
        have e : (IB 33 j).toNatClampNeg = q := by rw [b, cl (by omega)]
        simp only [e]
        exact ⟨a, b, c⟩
      obtain ⟨w, hw⟩ := hw
      obtain ⟨JB1, e1, q1⟩ := B_start (i := 0) (by omega) JB
      obtain ⟨JM1, e2, q2⟩ := M_start (i := 0) (by omega) (nI t') JM
      -- the class looks the word through first
      have eh : lp_X8_hasWord_2 t' IB FU 0 = some (match fsO (fun j => tst (¬ w j < r)) n 0 with
          | none => 1
          | some _ => 0) := by
        refine fsLoop (fun m j => lp_X8_hasWord_2 t' IB m (nI j)) n (fun j => tst (¬ w j < r)) (fun o => match o with
          | none => 1
          | some _ => 0) (fun m => ?_) (fun m j hj => ?_) n 0 FU (Nat.zero_add n) (by unfold FU; omega)
        · show lp_X8_hasWord_2 t' IB (m + 1) (nI n) = _
          rw [lp_X8_hasWord_2.eq_2, w2, if_pos (nI_le (Nat.le_refl _) (by omega))]
        · obtain ⟨a, b, c⟩ := hw j hj
          by_cases q : w j < r
          · refine Or.inr ⟨tst_f (fun z => z q), ?_⟩
            show lp_X8_hasWord_2 t' IB (m + 1) (nI j) = _
            rw [lp_X8_hasWord_2.eq_2, w2, if_neg (le_nI (by omega) (by omega) (by omega)), gd_in (by omega) (by decide), cl (by omega), b, bd_ok (e_has_in hB.1 q h5), if_neg (by decide), show nI j + 1 = nI (j + 1) from nI_1 j]
          · refine Or.inl ⟨(), tst_t q, ?_⟩
            show lp_X8_hasWord_2 t' IB (m + 1) (nI j) = _
            rw [lp_X8_hasWord_2.eq_2, w2, if_neg (le_nI (by omega) (by omega) (by omega)), gd_in (by omega) (by decide), cl (by omega), b, bd_ok (e_has_out hB.1 (Or.inr (nI_le (by omega) (by omega)))), if_pos rfl]
      cases hq : fsO (fun j => tst (¬ w j < r)) n 0 with
      | some q =>
        obtain ⟨z, hz⟩ := q
        obtain ⟨hz1, hz2⟩ := fsO_lt hq
        have hz1 : z < n := hz1
        have hz3 : ¬ w z < r := by
          intro q
          have : tst (¬ w z < r) = some hz := hz2
          rw [tst_f (fun y => y q)] at this
          cases this
        rw [hq] at eh
        -- the reference stops there too, whatever the sums are
        have em : ∃ J2, lp_X9_fused_28 (nI t') (nI k') IM FU (nI 0) JM1 = some (0, J2) := by
          have key : ∀ d j m (s : SJ), j + d = n → d < m → (∃ q, j ≤ q ∧ q < n ∧ ¬ w q < r) → ∃ J2, lp_X9_fused_28 (nI t') (nI k') IM m (nI j) s = some (0, J2) := by
            intro d
            induction d with
            | zero => intro j m s a b ⟨q, c1, c2, c3⟩; omega
            | succ d ih =>
              intro j m s a b ⟨q, c1, c2, c3⟩
              obtain ⟨m, rfl⟩ : ∃ y, m = y + 1 := ⟨m - 1, by omega⟩
              obtain ⟨a1, a2, a3⟩ := hw j (by omega)
              rw [lp_X9_fused_28.eq_2, w3, if_neg (le_nI (by omega) (by omega) (by omega)), gd_in (by omega) (by decide), cl (by omega), a3]
              by_cases y : w j < r
              · have f1 := e_isKind_in (show t' < 7 by omega) hM.1 y h5
                obtain ⟨J2, f2, f3⟩ := M_fuse hM (by omega) ho y s (fun z => s 7 z) (fun _ _ => rfl)
                rw [bd_ok f1, if_neg (by decide), gd_inc (by omega) (by decide), bd_ok f2, show nI j + 1 = nI (j + 1) from nI_1 j]
                refine ih (j + 1) m J2 (by omega) (by omega) ⟨q, ?_, c2, c3⟩
                by_cases e : q = j
                · rw [e] at c3; exact absurd y c3
                · omega
              · have f1 := e_isKind_out (show t' < 7 by omega) hM.1 (k := nI (w j)) (Or.inr (nI_le (by omega) (by omega))) h1 h5
                rw [bd_ok f1, if_pos rfl]
                exact ⟨s, rfl⟩
          exact key n 0 FU JM1 (Nat.zero_add n) (by unfold FU; omega) ⟨z, Nat.zero_le _, hz1, hz3⟩
        obtain ⟨J2, em⟩ := em
        refine ⟨-2, JB, J2, ?_, ?_⟩
        · unfold f_X8_fused f_X8_hasWord
          rw [bd_ok (e_isKindB_in ht hB.1 hk h5), if_neg (by decide), gd6 ht, cl (by omega), bd_ok eh]
          rfl
        · unfold f_X9_fused
          rw [bd_ok (e_noTable_in ht), if_pos rfl, bd_ok (e_isKind_in (by omega) hM.1 hk h5), if_neg (by decide), bd_ok (show f_X9_start (nI t') 0 JM = some JM1 from e2), bd_ok (show lp_X9_fused_28 (nI t') (nI k') IM FU 0 JM1 = some (0, J2) from em)]
          rfl
      | none =>
        rw [hq] at eh
        have hall : ∀ j, j < n → w j < r := fun j hj => Decidable.not_not.mp (tst_no (fsO_no n 0 hq j (Nat.zero_le _) (by omega)))
        have eb : ∃ o, lp_X8_fused_36 (nI t') (nI k') IB FU (nI 0) JB1 = some o ∧ ∀ k, k < 5 → o 34 k = wdS N r w n k := by
          refine exLoop (fun m q s => lp_X8_fused_36 (nI t') (nI k') IB m (nI q) s) n (fun q s => ∀ k, k < 5 → s 34 k = wdS N r w q k) _ (fun m s q => ?_) (fun m q s hq z => ?_) n 0 FU _ (Nat.zero_add n) (by unfold FU; omega) q1
          · refine ⟨s, ?_, q⟩
            show lp_X8_fused_36 (nI t') (nI k') IB (m + 1) (nI n) s = _
            rw [lp_X8_fused_36.eq_2, w2, if_pos (nI_le (Nat.le_refl _) (by omega))]
          · obtain ⟨J2, e3, z3⟩ := B_fuse hB ho (hall q hq) s _ z
            refine ⟨J2, ?_, z3⟩
            show lp_X8_fused_36 (nI t') (nI k') IB (m + 1) (nI q) s = _
            rw [lp_X8_fused_36.eq_2, w2, if_neg (le_nI (by omega) (by omega) (by omega)), gd6 ht, cl (show t' < 2 ^ 31 by omega), gd_in (show q < 14 by omega) (by decide), cl (show q < 2 ^ 31 by omega), (hw q hq).2.1, bd_ok e3, show nI q + 1 = nI (q + 1) from nI_1 q]
        have em : ∃ o, lp_X9_fused_28 (nI t') (nI k') IM FU (nI 0) JM1 = some o ∧ o.1 = 1 ∧ ∀ k, k < 5 → o.2 7 k = wdS N r w n k := by
          refine exLoop (fun m q s => lp_X9_fused_28 (nI t') (nI k') IM m (nI q) s) n (fun q s => ∀ k, k < 5 → s 7 k = wdS N r w q k) (fun o => o.1 = 1 ∧ ∀ k, k < 5 → o.2 7 k = wdS N r w n k) (fun m s q => ?_) (fun m q s hq z => ?_) n 0 FU _ (Nat.zero_add n) (by unfold FU; omega) q2
          · refine ⟨(1, s), ?_, rfl, q⟩
            show lp_X9_fused_28 (nI t') (nI k') IM (m + 1) (nI n) s = _
            rw [lp_X9_fused_28.eq_2, w3, if_pos (nI_le (Nat.le_refl _) (by omega))]
          · obtain ⟨J2, e3, z3⟩ := M_fuse hM (by omega) ho (hall q hq) s _ z
            refine ⟨J2, ?_, z3⟩
            show lp_X9_fused_28 (nI t') (nI k') IM (m + 1) (nI q) s = _
            rw [lp_X9_fused_28.eq_2, w3, if_neg (le_nI (by omega) (by omega) (by omega)), gd_in (show q < 14 by omega) (by decide), cl (show q < 2 ^ 31 by omega), (hw q hq).2.2, bd_ok (e_isKind_in (by omega) hM.1 (hall q hq) h5), if_neg (by decide), gd_inc (show q < 14 by omega) (by decide), bd_ok e3, show nI q + 1 = nI (q + 1) from nI_1 q]
        obtain ⟨JB2, eb, qb⟩ := eb
        obtain ⟨⟨o1, JM2⟩, em, rfl, qm⟩ := em
        refine ⟨wdS N r w n k', JB2, JM2, ?_, ?_⟩
        · unfold f_X8_fused f_X8_hasWord
          rw [bd_ok (e_isKindB_in ht hB.1 hk h5), if_neg (by decide), gd6 ht, cl (by omega), bd_ok eh]
          show (bd (f_X6_begin 0 JB) fun J_10 => bd (lp_X8_fused_36 (nI t') (nI k') IB FU 0 J_10) fun J_11 => gd (nI k' < 0 ∨ 5 ≤ (nI k').toNatClampNeg) (some (J_11 34 (nI k').toNatClampNeg, J_11))) = _
          rw [bd_ok (show f_X6_begin 0 JB = some JB1 from e1), bd_ok (show lp_X8_fused_36 (nI t') (nI k') IB FU 0 JB1 = some JB2 from eb), gd_in (by omega) (by decide), cl (by omega), qb k' (by omega)]
        · unfold f_X9_fused
          rw [bd_ok (e_noTable_in ht), if_pos rfl, bd_ok (e_isKind_in (by omega) hM.1 hk h5), if_neg (by decide), bd_ok (show f_X9_start (nI t') 0 JM = some JM1 from e2), bd_ok (show lp_X9_fused_28 (nI t') (nI k') IM FU 0 JM1 = some (1, JM2) from em)]
          show gd (nI k' < 0 ∨ 5 ≤ (nI k').toNatClampNeg) (some (JM2 7 (nI k').toNatClampNeg, JM2)) = _
          rw [gd_in (by omega) (by decide), cl (by omega), show JM2 7 k' = _ from qm k' (by omega)]
    · refine ⟨-2, JB, JM, ?_, ?_⟩
      · unfold f_X8_fused
        rw [bd_ok (e_isKindB_out ht hB.1 hk), if_pos rfl]
      · unfold f_X9_fused
        rw [bd_ok (e_noTable_in ht), if_pos rfl, bd_ok (e_isKind_out (by omega) hM.1 hk h1 h5), if_pos rfl]
  · refine ⟨-2, JB, JM, ?_, ?_⟩
    · unfold f_X8_fused
      rw [bd_ok (e_isKindB_no ht), if_pos rfl]
    · unfold f_X9_fused
      rw [bd_ok (e_noTable_out ht), if_neg (by decide)]
end O3
