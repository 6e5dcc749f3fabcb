/-! LAWS, fourth part: law 5 -/
def iI (z : Int) : Int32 := Int32.ofInt z
theorem nI_iI (n : Nat) : nI n = iI n := Int32.ofInt_eq_ofNat.symm
theorem iI_add (a b : Int) : iI a + iI b = iI (a + b) := (Int32.ofInt_add a b).symm
theorem iI_sub (a b : Int) : iI a - iI b = iI (a - b) := (Int32.ofInt_sub a b).symm
theorem iI_mul (a b : Int) : iI a * iI b = iI (a * b) := (Int32.ofInt_mul a b).symm
theorem iI_toInt {a : Int} (h1 : -2 ^ 31 ≤ a) (h2 : a < 2 ^ 31) : (iI a).toInt = a := Int32.toInt_ofInt_of_le h1 h2
theorem iI_inj {a b : Int} (h1 : -2 ^ 31 ≤ a) (h2 : a < 2 ^ 31) (h3 : -2 ^ 31 ≤ b) (h4 : b < 2 ^ 31) : iI a = iI b ↔ a = b := ⟨fun h => by rw [← iI_toInt h1 h2, ← iI_toInt h3 h4, h], fun h => by rw [h]⟩
theorem sm_le (f : Nat → Int) (B : Int) : ∀ r : Nat, (∀ x, x < r → -B ≤ f x ∧ f x ≤ B) → -(r * B) ≤ sm f r ∧ sm f r ≤ r * B := by
  intro r
  induction r with
  | zero => intro _; simp [sm]
  | succ r ih =>
    intro h
    have a := ih (fun x hx => h x (by omega))
    have b := h r (by omega)
    rw [sm]
    have e : ((r + 1 : Nat) : Int) * B = r * B + B := by rw [Int.natCast_add, Int.add_mul]; simp
    rw [e]
    omega
theorem mul_le99 {a b : Nat} (ha : a ≤ 9) (hb : b ≤ 9) : (a : Int) * b ≤ 81 ∧ 0 ≤ (a : Int) * b := by
  have h : a * b ≤ 9 * 9 := Nat.mul_le_mul ha hb
  rw [← Int.natCast_mul]
  omega
theorem df_le {r : Nat} {N : Nat → Nat} (ho : OKT r N) {i j k l : Nat} (hi : i < r) (hj : j < r) (hk : k < r) (hl : l < r) : -405 ≤ df N r i j k l ∧ df N r i j k l ≤ 405 := by
  obtain ⟨h1, h5, h9⟩ := id ho
  have := sm_le (fun x => (nn N i j x : Int) * nn N x k l - (nn N j k x : Int) * nn N i x l) 81 r (fun x hx => by
    have a := mul_le99 (ho.nn (i := i) (j := j) (k := x) (by omega) (by omega) (by omega)) (ho.nn (i := x) (j := k) (k := l) (by omega) (by omega) (by omega))
    have b := mul_le99 (ho.nn (i := j) (j := k) (k := x) (by omega) (by omega) (by omega)) (ho.nn (i := i) (j := x) (k := l) (by omega) (by omega) (by omega))
    show -81 ≤ (nn N i j x : Int) * nn N x k l - (nn N j k x : Int) * nn N i x l ∧ (nn N i j x : Int) * nn N x k l - (nn N j k x : Int) * nn N i x l ≤ 81
    omega)
  show -405 ≤ sm _ r ∧ sm _ r ≤ 405
  omega
theorem B_df {I : SI} {x r : Nat} {N : Nat → Nat} (h : TB I x r N) (ho : OKT r N) {i j k l : Nat} (hi : i < r) (hj : j < r) (hk : k < r) (hl : l < r) : lp_X1_firstUnlike_18 x (nI i) (nI j) (nI k) (nI l) I FU 0 0 = some (iI (df N r i j k l)) := by
  obtain ⟨h1, h5, h9⟩ := id ho
  refine upLoop (fun n z => lp_X1_firstUnlike_18 x (nI i) (nI j) (nI k) (nI l) I n (iI (sm (fun x => (nn N i j x : Int) * nn N x k l - (nn N j k x : Int) * nn N i x l) z)) (nI z)) r _ (fun n => ?_) (fun n z hz => ?_) r 0 FU (Nat.zero_add r) (FUlt h5)
  · show lp_X1_firstUnlike_18 x (nI i) (nI j) (nI k) (nI l) I (n + 1) _ (nI r) = _
    rw [lp_X1_firstUnlike_18.eq_2, h.1, if_pos (nI_le (Nat.le_refl _) (by omega))]
    rfl
  · have a1 := B_num h (i := i) (j := j) (k := z) (by omega) (by omega) (by omega)
    have a2 := B_num h (i := z) (j := k) (k := l) (by omega) (by omega) (by omega)
    have a3 := B_num h (i := j) (j := k) (k := z) (by omega) (by omega) (by omega)
    have a4 := B_num h (i := i) (j := z) (k := l) (by omega) (by omega) (by omega)
    show lp_X1_firstUnlike_18 x (nI i) (nI j) (nI k) (nI l) I (n + 1) (iI (sm _ z)) (nI z) = lp_X1_firstUnlike_18 x (nI i) (nI j) (nI k) (nI l) I n (iI (sm _ (z + 1))) (nI (z + 1))
    rw [lp_X1_firstUnlike_18.eq_2, h.1, if_neg (le_nI (by omega) (by omega) (by omega)), bd_ok a1, bd_ok a2, bd_ok a3, bd_ok a4, n1, nI_add, nI_iI (nn N i j z), nI_iI (nn N z k l), nI_iI (nn N j k z), nI_iI (nn N i z l), iI_mul, iI_mul, iI_sub, iI_add]
    rfl
theorem M_df {I : SI} {t r : Nat} {N : Nat → Nat} (h : TM I t r N) (ht : t < 7) (ho : OKT r N) (c : Int32) {i j k l : Nat} (hi : i < r) (hj : j < r) (hk : k < r) (hl : l < r) : lp_X9_breaksSums_56 (nI t) (nI r) c (nI i) (nI j) (nI k) (nI l) I FU 0 0 = some (iI (df N r i j k l)) := by
  obtain ⟨h1, h5, h9⟩ := id ho
  refine upLoop (fun n z => lp_X9_breaksSums_56 (nI t) (nI r) c (nI i) (nI j) (nI k) (nI l) I n (iI (sm (fun x => (nn N i j x : Int) * nn N x k l - (nn N j k x : Int) * nn N i x l) z)) (nI z)) r _ (fun n => ?_) (fun n z hz => ?_) r 0 FU (Nat.zero_add r) (FUlt h5)
  · show lp_X9_breaksSums_56 (nI t) (nI r) c (nI i) (nI j) (nI k) (nI l) I (n + 1) _ (nI r) = _
    rw [lp_X9_breaksSums_56.eq_2, if_pos (nI_le (Nat.le_refl _) (by omega))]
    rfl
  · have a1 := M_num h ht (i := i) (j := j) (k := z) (by omega) (by omega) (by omega)
    have a2 := M_num h ht (i := z) (j := k) (k := l) (by omega) (by omega) (by omega)
    have a3 := M_num h ht (i := j) (j := k) (k := z) (by omega) (by omega) (by omega)
    have a4 := M_num h ht (i := i) (j := z) (k := l) (by omega) (by omega) (by omega)
    show lp_X9_breaksSums_56 (nI t) (nI r) c (nI i) (nI j) (nI k) (nI l) I (n + 1) (iI (sm _ z)) (nI z) = lp_X9_breaksSums_56 (nI t) (nI r) c (nI i) (nI j) (nI k) (nI l) I n (iI (sm _ (z + 1))) (nI (z + 1))
    rw [lp_X9_breaksSums_56.eq_2, if_neg (le_nI (by omega) (by omega) (by omega)), bd_ok a1, bd_ok a2, bd_ok a3, bd_ok a4, n1, nI_add, nI_iI (nn N i j z), nI_iI (nn N z k l), nI_iI (nn N j k z), nI_iI (nn N i z l), iI_mul, iI_mul, iI_sub, iI_add]
    rfl
theorem B_unlike {I : SI} {x r : Nat} {N : Nat → Nat} (h : TB I x r N) (ho : OKT r N) {i j k : Nat} (hi : i < r) (hj : j < r) (hk : k < r) : f_X1_firstUnlike x (nI i) (nI j) (nI k) I = some (match fsO (fun l => tst (bad5 N r i j k l)) r 0 with
    | none => -1
    | some (l, _) => nI l) := by
  obtain ⟨h1, h5, h9⟩ := id ho
  have e : lp_X1_firstUnlike_3 x (nI i) (nI j) (nI k) I FU 0 = some (en1 (fsO (fun l => tst (bad5 N r i j k l)) r 0)) := by
    refine fsLoop (fun n l => lp_X1_firstUnlike_3 x (nI i) (nI j) (nI k) I n (nI l)) r (fun l => tst (bad5 N r i j k l)) en1 (fun n => ?_) (fun n l hl => ?_) r 0 FU (Nat.zero_add r) (FUlt h5)
    · show lp_X1_firstUnlike_3 x (nI i) (nI j) (nI k) I (n + 1) (nI r) = _
      rw [lp_X1_firstUnlike_3.eq_2, h.1, if_pos (nI_le (Nat.le_refl _) (by omega))]
      rfl
    · have a := B_df h ho hi hj hk hl
      have b := df_le ho hi hj hk hl
      have e2 : lp_X1_firstUnlike_3 x (nI i) (nI j) (nI k) I (n + 1) (nI l) = if bad5 N r i j k l then some (0, nI l) else lp_X1_firstUnlike_3 x (nI i) (nI j) (nI k) I n (nI (l + 1)) := by
        rw [lp_X1_firstUnlike_3.eq_2, h.1, if_neg (le_nI (by omega) (by omega) (by omega)), bd_ok a, n1, nI_add]
        by_cases q : bad5 N r i j k l
        · rw [if_pos q, if_neg (fun z => q ((iI_inj (by omega) (by omega) (by omega) (by omega)).mp (z.trans (show (0 : Int32) = iI 0 from rfl))))]
        · rw [if_neg q, if_pos (by rw [Decidable.not_not.mp q]; rfl)]
      by_cases hb : bad5 N r i j k l
      · exact Or.inl ⟨(), tst_t hb, by show lp_X1_firstUnlike_3 x (nI i) (nI j) (nI k) I (n + 1) (nI l) = _; rw [e2, if_pos hb]; rfl⟩
      · exact Or.inr ⟨tst_f hb, by show lp_X1_firstUnlike_3 x (nI i) (nI j) (nI k) I (n + 1) (nI l) = _; rw [e2, if_neg hb]⟩
  unfold f_X1_firstUnlike
  rw [bd_ok e]
  cases fsO (fun l => tst (bad5 N r i j k l)) r 0 with
  | none => rfl
  | some a => rfl
theorem nI_nm1 {n : Nat} (h : n < 2 ^ 31) : ¬ nI n = (-1 : Int32) := fun q => by
  have := congrArg Int32.toInt q
  rw [nI_toInt h, show (-1 : Int32).toInt = -1 by decide] at this
  omega
theorem B_three_in18 {I : SI} {x r : Nat} {N : Nat → Nat} (h : TB I x r N) (ho : OKT r N) {i j : Nat} (hi : i < r) (hj : j < r) : lp_X1_threeHolds_18_23 x (nI i) (nI j) I FU 1 = some (en2 (fsO (fun k => fsO (fun l => tst (bad5 N r i j k l)) r 0) (r - 1) 1)) := by
  obtain ⟨h1, h5, h9⟩ := id ho
  refine fsLoop (fun n k => lp_X1_threeHolds_18_23 x (nI i) (nI j) I n (nI k)) r (fun k => fsO (fun l => tst (bad5 N r i j k l)) r 0) en2 (fun n => ?_) (fun n k hk => ?_) (r - 1) 1 FU (by omega) (by unfold FU; omega)
  · show lp_X1_threeHolds_18_23 x (nI i) (nI j) I (n + 1) (nI r) = _
    rw [lp_X1_threeHolds_18_23.eq_2, h.1, if_pos (nI_le (Nat.le_refl _) (by omega))]
    rfl
  · have a := B_unlike h ho hi hj hk
    cases hq : fsO (fun l => tst (bad5 N r i j k l)) r 0 with
    | some q =>
      refine Or.inl ⟨q, rfl, ?_⟩
      rw [hq] at a
      have hl := (fsO_lt hq).1
      show lp_X1_threeHolds_18_23 x (nI i) (nI j) I (n + 1) (nI k) = _
      rw [lp_X1_threeHolds_18_23.eq_2, h.1, if_neg (le_nI (by omega) (by omega) (by omega)), bd_ok a]
      exact if_neg (nI_nm1 (by omega))
    | none =>
      refine Or.inr ⟨rfl, ?_⟩
      rw [hq] at a
      show lp_X1_threeHolds_18_23 x (nI i) (nI j) I (n + 1) (nI k) = _
      rw [lp_X1_threeHolds_18_23.eq_2, h.1, if_neg (le_nI (by omega) (by omega) (by omega)), bd_ok a, n1, nI_add]
      exact if_pos rfl
theorem B_three_mid18 {I : SI} {x r : Nat} {N : Nat → Nat} (h : TB I x r N) (ho : OKT r N) {i : Nat} (hi : i < r) : lp_X1_threeHolds_18_12 x (nI i) I FU 1 = some (en3 (fsO (fun j => fsO (fun k => fsO (fun l => tst (bad5 N r i j k l)) r 0) (r - 1) 1) (r - 1) 1)) := by
  obtain ⟨h1, h5, h9⟩ := id ho
  refine fsLoop (fun n j => lp_X1_threeHolds_18_12 x (nI i) I n (nI j)) r (fun j => fsO (fun k => fsO (fun l => tst (bad5 N r i j k l)) r 0) (r - 1) 1) en3 (fun n => ?_) (fun n j hj => ?_) (r - 1) 1 FU (by omega) (by unfold FU; omega)
  · show lp_X1_threeHolds_18_12 x (nI i) I (n + 1) (nI r) = _
    rw [lp_X1_threeHolds_18_12.eq_2, h.1, if_pos (nI_le (Nat.le_refl _) (by omega))]
    rfl
  · have e := B_three_in18 h ho hi hj
    cases hq : fsO (fun k => fsO (fun l => tst (bad5 N r i j k l)) r 0) (r - 1) 1 with
    | some q =>
      refine Or.inl ⟨q, rfl, ?_⟩
      rw [hq] at e
      show lp_X1_threeHolds_18_12 x (nI i) I (n + 1) (nI j) = _
      rw [lp_X1_threeHolds_18_12.eq_2, h.1, if_neg (le_nI (by omega) (by omega) (by omega)), bd_ok e]
      rfl
    | none =>
      refine Or.inr ⟨rfl, ?_⟩
      rw [hq] at e
      show lp_X1_threeHolds_18_12 x (nI i) I (n + 1) (nI j) = _
      rw [lp_X1_threeHolds_18_12.eq_2, h.1, if_neg (le_nI (by omega) (by omega) (by omega)), bd_ok e, n1, nI_add]
      rfl
theorem B_three_out18 {I : SI} {x r : Nat} {N : Nat → Nat} (h : TB I x r N) (ho : OKT r N) : lp_X1_threeHolds_18_2 x I FU 1 = some (en4 (fsO (fun i => fsO (fun j => fsO (fun k => fsO (fun l => tst (bad5 N r i j k l)) r 0) (r - 1) 1) (r - 1) 1) (r - 1) 1)) := by
  obtain ⟨h1, h5, h9⟩ := id ho
  refine fsLoop (fun n i => lp_X1_threeHolds_18_2 x I n (nI i)) r (fun i => fsO (fun j => fsO (fun k => fsO (fun l => tst (bad5 N r i j k l)) r 0) (r - 1) 1) (r - 1) 1) en4 (fun n => ?_) (fun n i hi => ?_) (r - 1) 1 FU (by omega) (by unfold FU; omega)
  · show lp_X1_threeHolds_18_2 x I (n + 1) (nI r) = _
    rw [lp_X1_threeHolds_18_2.eq_2, h.1, if_pos (nI_le (Nat.le_refl _) (by omega))]
    rfl
  · have e := B_three_mid18 h ho hi
    cases hq : fsO (fun j => fsO (fun k => fsO (fun l => tst (bad5 N r i j k l)) r 0) (r - 1) 1) (r - 1) 1 with
    | some q =>
      refine Or.inl ⟨q, rfl, ?_⟩
      rw [hq] at e
      show lp_X1_threeHolds_18_2 x I (n + 1) (nI i) = _
      rw [lp_X1_threeHolds_18_2.eq_2, h.1, if_neg (le_nI (by omega) (by omega) (by omega)), bd_ok e]
      rfl
    | none =>
      refine Or.inr ⟨rfl, ?_⟩
      rw [hq] at e
      show lp_X1_threeHolds_18_2 x I (n + 1) (nI i) = _
      rw [lp_X1_threeHolds_18_2.eq_2, h.1, if_neg (le_nI (by omega) (by omega) (by omega)), bd_ok e, n1, nI_add]
      rfl
theorem B_three_in21 {I : SI} {x r : Nat} {N : Nat → Nat} (h : TB I x r N) (ho : OKT r N) {i j : Nat} (hi : i < r) (hj : j < r) : lp_X1_threeHolds_21_23 x (nI i) (nI j) I FU 1 = some (en2 (fsO (fun k => fsO (fun l => tst (bad5 N r i j k l)) r 0) (r - 1) 1)) := by
  obtain ⟨h1, h5, h9⟩ := id ho
  refine fsLoop (fun n k => lp_X1_threeHolds_21_23 x (nI i) (nI j) I n (nI k)) r (fun k => fsO (fun l => tst (bad5 N r i j k l)) r 0) en2 (fun n => ?_) (fun n k hk => ?_) (r - 1) 1 FU (by omega) (by unfold FU; omega)
  · show lp_X1_threeHolds_21_23 x (nI i) (nI j) I (n + 1) (nI r) = _
    rw [lp_X1_threeHolds_21_23.eq_2, h.1, if_pos (nI_le (Nat.le_refl _) (by omega))]
    rfl
  · have a := B_unlike h ho hi hj hk
    cases hq : fsO (fun l => tst (bad5 N r i j k l)) r 0 with
    | some q =>
      refine Or.inl ⟨q, rfl, ?_⟩
      rw [hq] at a
      have hl := (fsO_lt hq).1
      show lp_X1_threeHolds_21_23 x (nI i) (nI j) I (n + 1) (nI k) = _
      rw [lp_X1_threeHolds_21_23.eq_2, h.1, if_neg (le_nI (by omega) (by omega) (by omega)), bd_ok a]
      exact if_neg (nI_nm1 (by omega))
    | none =>
      refine Or.inr ⟨rfl, ?_⟩
      rw [hq] at a
      show lp_X1_threeHolds_21_23 x (nI i) (nI j) I (n + 1) (nI k) = _
      rw [lp_X1_threeHolds_21_23.eq_2, h.1, if_neg (le_nI (by omega) (by omega) (by omega)), bd_ok a, n1, nI_add]
      exact if_pos rfl
theorem B_three_mid21 {I : SI} {x r : Nat} {N : Nat → Nat} (h : TB I x r N) (ho : OKT r N) {i : Nat} (hi : i < r) : lp_X1_threeHolds_21_12 x (nI i) I FU 1 = some (en3 (fsO (fun j => fsO (fun k => fsO (fun l => tst (bad5 N r i j k l)) r 0) (r - 1) 1) (r - 1) 1)) := by
  obtain ⟨h1, h5, h9⟩ := id ho
  refine fsLoop (fun n j => lp_X1_threeHolds_21_12 x (nI i) I n (nI j)) r (fun j => fsO (fun k => fsO (fun l => tst (bad5 N r i j k l)) r 0) (r - 1) 1) en3 (fun n => ?_) (fun n j hj => ?_) (r - 1) 1 FU (by omega) (by unfold FU; omega)
  · show lp_X1_threeHolds_21_12 x (nI i) I (n + 1) (nI r) = _
    rw [lp_X1_threeHolds_21_12.eq_2, h.1, if_pos (nI_le (Nat.le_refl _) (by omega))]
    rfl
  · have e := B_three_in21 h ho hi hj
    cases hq : fsO (fun k => fsO (fun l => tst (bad5 N r i j k l)) r 0) (r - 1) 1 with
    | some q =>
      refine Or.inl ⟨q, rfl, ?_⟩
      rw [hq] at e
      show lp_X1_threeHolds_21_12 x (nI i) I (n + 1) (nI j) = _
      rw [lp_X1_threeHolds_21_12.eq_2, h.1, if_neg (le_nI (by omega) (by omega) (by omega)), bd_ok e]
      rfl
    | none =>
      refine Or.inr ⟨rfl, ?_⟩
      rw [hq] at e
      show lp_X1_threeHolds_21_12 x (nI i) I (n + 1) (nI j) = _
      rw [lp_X1_threeHolds_21_12.eq_2, h.1, if_neg (le_nI (by omega) (by omega) (by omega)), bd_ok e, n1, nI_add]
      rfl
theorem B_three_out21 {I : SI} {x r : Nat} {N : Nat → Nat} (h : TB I x r N) (ho : OKT r N) : lp_X1_threeHolds_21_2 x I FU 1 = some (en4 (fsO (fun i => fsO (fun j => fsO (fun k => fsO (fun l => tst (bad5 N r i j k l)) r 0) (r - 1) 1) (r - 1) 1) (r - 1) 1)) := by
  obtain ⟨h1, h5, h9⟩ := id ho
  refine fsLoop (fun n i => lp_X1_threeHolds_21_2 x I n (nI i)) r (fun i => fsO (fun j => fsO (fun k => fsO (fun l => tst (bad5 N r i j k l)) r 0) (r - 1) 1) (r - 1) 1) en4 (fun n => ?_) (fun n i hi => ?_) (r - 1) 1 FU (by omega) (by unfold FU; omega)
  · show lp_X1_threeHolds_21_2 x I (n + 1) (nI r) = _
    rw [lp_X1_threeHolds_21_2.eq_2, h.1, if_pos (nI_le (Nat.le_refl _) (by omega))]
    rfl
  · have e := B_three_mid21 h ho hi
    cases hq : fsO (fun j => fsO (fun k => fsO (fun l => tst (bad5 N r i j k l)) r 0) (r - 1) 1) (r - 1) 1 with
    | some q =>
      refine Or.inl ⟨q, rfl, ?_⟩
      rw [hq] at e
      show lp_X1_threeHolds_21_2 x I (n + 1) (nI i) = _
      rw [lp_X1_threeHolds_21_2.eq_2, h.1, if_neg (le_nI (by omega) (by omega) (by omega)), bd_ok e]
      rfl
    | none =>
      refine Or.inr ⟨rfl, ?_⟩
      rw [hq] at e
      show lp_X1_threeHolds_21_2 x I (n + 1) (nI i) = _
      rw [lp_X1_threeHolds_21_2.eq_2, h.1, if_neg (le_nI (by omega) (by omega) (by omega)), bd_ok e, n1, nI_add]
      rfl
def Unit1 (r : Nat) (N : Nat → Nat) : Prop := ∀ i j, i < r → j < r → nn N 0 i j = dl i j ∧ nn N i 0 j = dl i j
theorem lw1_no {r : Nat} {N : Nat → Nat} (h : lw1 r N = none) : Unit1 r N := fun i j hi hj => by
  have a := fsO_no r 0 h i (Nat.zero_le _) (by omega)
  have b := fsO_no r 0 a j (Nat.zero_le _) (by omega)
  exact Decidable.not_not.mp (tst_no b)
theorem sm_sub (f g : Nat → Int) : ∀ r, sm (fun x => f x - g x) r = sm f r - sm g r := by
  intro r
  induction r with
  | zero => rfl
  | succ r ih => rw [sm, sm, sm, ih]; omega
theorem sm_congr {f g : Nat → Int} : ∀ r, (∀ x, x < r → f x = g x) → sm f r = sm g r := by
  intro r
  induction r with
  | zero => intro _; rfl
  | succ r ih => intro h; rw [sm, sm, ih (fun x hx => h x (by omega)), h r (by omega)]
theorem sm_dl (b : Nat → Int) (j : Nat) : ∀ r, sm (fun x => (dl j x : Int) * b x) r = if j < r then b j else 0 := by
  intro r
  induction r with
  | zero => rfl
  | succ r ih =>
    rw [sm, ih]
    by_cases h : j = r
    · subst h
      rw [if_neg (by omega), if_pos (by omega), dl, if_pos rfl]
      simp
    · rw [dl, if_neg h]
      by_cases h2 : j < r
      · rw [if_pos h2, if_pos (by omega)]; simp
      · rw [if_neg h2, if_neg (by omega)]; simp
theorem dl_comm (i j : Nat) : dl i j = dl j i := by unfold dl; by_cases h : i = j <;> simp [h, eq_comm]
theorem df0 {r : Nat} {N : Nat → Nat} (hu : Unit1 r N) (h1 : 1 ≤ r) {i j k l : Nat} (hi : i < r) (hj : j < r) (hk : k < r) (hl : l < r) (hz : i = 0 ∨ j = 0 ∨ k = 0) : df N r i j k l = 0 := by
  unfold df
  rw [sm_sub]
  rcases hz with rfl | rfl | rfl
  · have e1 : sm (fun x => (nn N 0 j x : Int) * nn N x k l) r = sm (fun x => (dl j x : Int) * nn N x k l) r := sm_congr r (fun x hx => by rw [(hu j x hj hx).1])
    have e2 : sm (fun x => (nn N j k x : Int) * nn N 0 x l) r = sm (fun x => (dl l x : Int) * nn N j k x) r := sm_congr r (fun x hx => by rw [(hu x l hx hl).1, dl_comm x l, Int.mul_comm])
    rw [e1, e2, sm_dl (fun x => (nn N x k l : Int)), sm_dl (fun x => (nn N j k x : Int)), if_pos hj, if_pos hl]
    omega
  · have e1 : sm (fun x => (nn N i 0 x : Int) * nn N x k l) r = sm (fun x => (dl i x : Int) * nn N x k l) r := sm_congr r (fun x hx => by rw [(hu i x hi hx).2])
    have e2 : sm (fun x => (nn N 0 k x : Int) * nn N i x l) r = sm (fun x => (dl k x : Int) * nn N i x l) r := sm_congr r (fun x hx => by rw [(hu k x hk hx).1])
    rw [e1, e2, sm_dl (fun x => (nn N x k l : Int)), sm_dl (fun x => (nn N i x l : Int)), if_pos hi, if_pos hk]
    omega
  · have e1 : sm (fun x => (nn N i j x : Int) * nn N x 0 l) r = sm (fun x => (dl l x : Int) * nn N i j x) r := sm_congr r (fun x hx => by rw [(hu x l hx hl).2, dl_comm x l, Int.mul_comm])
    have e2 : sm (fun x => (nn N j 0 x : Int) * nn N i x l) r = sm (fun x => (dl j x : Int) * nn N i x l) r := sm_congr r (fun x hx => by rw [(hu j x hj hx).2])
    rw [e1, e2, sm_dl (fun x => (nn N i j x : Int)), sm_dl (fun x => (nn N i x l : Int)), if_pos hl, if_pos hj]
    omega
/-- with the unit, law 5 breaks with no KIND 0 -/
theorem lw5_from1 {r : Nat} {N : Nat → Nat} (hu : Unit1 r N) (h1 : 1 ≤ r) : lw5 r N = fsO (fun i => fsO (fun j => fsO (fun k => fsO (fun l => tst (bad5 N r i j k l)) r 0) (r - 1) 1) (r - 1) 1) (r - 1) 1 := by
  obtain ⟨q, rfl⟩ : ∃ q, r = q + 1 := ⟨r - 1, by omega⟩
  have z : ∀ i j k, i < q + 1 → j < q + 1 → k < q + 1 → (i = 0 ∨ j = 0 ∨ k = 0) → fsO (fun l => tst (bad5 N (q + 1) i j k l)) (q + 1) 0 = none := fun i j k hi hj hk hz =>
    fsO_all (q + 1) 0 (fun l _ hl => tst_f (fun b => b (df0 hu h1 hi hj hk (by omega) hz)))
  unfold lw5
  rw [show q + 1 - 1 = q by omega]
  refine Eq.trans (fsO_none (d := q) (j := 0) ?_) ?_
  · exact fsO_all (q + 1) 0 (fun j _ hj => fsO_all (q + 1) 0 (fun k _ hk => z 0 j k (by omega) (by omega) (by omega) (Or.inl rfl)))
  refine fsO_congr q 1 (fun i hi1 hi2 => ?_)
  refine Eq.trans (fsO_none (d := q) (j := 0) ?_) ?_
  · exact fsO_all (q + 1) 0 (fun k _ hk => z i 0 k (by omega) (by omega) (by omega) (Or.inr (Or.inl rfl)))
  refine fsO_congr q 1 (fun j hj1 hj2 => ?_)
  refine fsO_none (d := q) (j := 0) ?_
  exact z i j 0 (by omega) (by omega) (by omega) (Or.inr (Or.inr rfl))
theorem fsO_flat4 (bad : Nat → Nat → Nat → Nat → Prop) (hd : ∀ i j k l, Decidable (bad i j k l)) (r : Nat) (h1 : 1 ≤ r) (h5 : r ≤ 5) :
    fsO (fun c => tst (bad (c / (r * r * r)) (c / (r * r) % r) (c / r % r) (c % r))) (r * r * r * r) 0 = (fsO (fun i => fsO (fun j => fsO (fun k => fsO (fun l => tst (bad i j k l)) r 0) r 0) r 0) r 0).map (fun a => (a.1 * (r * r * r) + (a.2.1 * (r * r) + (a.2.2.1 * r + a.2.2.2.1)), a.2.2.2.2)) := by
  have hrr : 0 < r * r * r := Nat.mul_pos (Nat.mul_pos h1 h1) h1
  have e1 := fsO_flat (fun i c => tst (bad i (c / (r * r)) (c / r % r) (c % r))) (r * r * r) hrr r 0
  have e2 : ∀ i, fsO (fun c => tst (bad i (c / (r * r)) (c / r % r) (c % r))) (r * r * r) 0 = (fsO (fun j => fsO (fun k => fsO (fun l => tst (bad i j k l)) r 0) r 0) r 0).map (fun a => (a.1 * (r * r) + (a.2.1 * r + a.2.2.1), a.2.2.2)) := fun i => fsO_flat3 (bad i) (hd i) r h1 h5
  have e3 : (fun i => fsO (fun c => tst (bad i (c / (r * r)) (c / r % r) (c % r))) (r * r * r) 0) = fun i => (fsO (fun j => fsO (fun k => fsO (fun l => tst (bad i j k l)) r 0) r 0) r 0).map (fun a => (a.1 * (r * r) + (a.2.1 * r + a.2.2.1), a.2.2.2)) := funext e2
  have e4 : fsO (fun i => fsO (fun c => tst (bad i (c / (r * r)) (c / r % r) (c % r))) (r * r * r) 0) r 0 = _ := (congrArg (fun g => fsO g r 0) e3).trans (fsO_map _ _ r 0)
  rw [Nat.zero_mul] at e1
  rw [e4] at e1
  rw [Option.map_map] at e1
  have e5 : fsO (fun c => tst (bad (c / (r * r * r)) (c / (r * r) % r) (c / r % r) (c % r))) (r * r * r * r) 0 = fsO (fun c => tst (bad (c / (r * r * r)) (c % (r * r * r) / (r * r)) (c % (r * r * r) / r % r) (c % (r * r * r) % r))) (r * (r * r * r)) 0 := by
    rw [Nat.mul_comm r (r * r * r)]
    refine fsO_congr _ 0 (fun c _ _ => ?_)
    have q : c / (r * r) % r = c % (r * r * r) / (r * r) ∧ c / r % r = c % (r * r * r) / r % r ∧ c % r = c % (r * r * r) % r := by
      rcases (show r = 1 ∨ r = 2 ∨ r = 3 ∨ r = 4 ∨ r = 5 by omega) with rfl | rfl | rfl | rfl | rfl <;> omega
    obtain ⟨q1, q2, q3⟩ := q
    simp only [q1, ← q2, ← q3]
  rw [e5, e1]
  rfl
def enF4 (r : Nat) (o : Option (Nat × Unit)) : Nat × Int32 × Int32 × Int32 × Int32 := match o with
  | none => (1, 0, 0, 0, 0)
  | some (c, _) => (0, nI (c / (r * r * r)), nI (c / (r * r) % r), nI (c / r % r), nI (c % r))
theorem enF_en4 (bad : Nat → Nat → Nat → Nat → Prop) (hd : ∀ i j k l, Decidable (bad i j k l)) (r : Nat) (h1 : 1 ≤ r) (h5 : r ≤ 5) :
    enF4 r (fsO (fun c => tst (bad (c / (r * r * r)) (c / (r * r) % r) (c / r % r) (c % r))) (r * r * r * r) 0) = en4 (fsO (fun i => fsO (fun j => fsO (fun k => fsO (fun l => tst (bad i j k l)) r 0) r 0) r 0) r 0) := by
  rw [fsO_flat4 bad hd r h1 h5]
  cases h : fsO (fun i => fsO (fun j => fsO (fun k => fsO (fun l => tst (bad i j k l)) r 0) r 0) r 0) r 0 with
  | none => rfl
  | some a =>
    obtain ⟨i, j, k, l, u⟩ := a
    obtain ⟨hi, h⟩ := fsO_lt h
    obtain ⟨hj, h⟩ := fsO_lt h
    obtain ⟨hk, h⟩ := fsO_lt h
    obtain ⟨hl, h⟩ := fsO_lt h
    have hi : i < r := hi
    have hj : j < r := hj
    have hk : k < r := hk
    have hl : l < r := hl
    have q : (i * (r * r * r) + (j * (r * r) + (k * r + l))) / (r * r * r) = i ∧ (i * (r * r * r) + (j * (r * r) + (k * r + l))) / (r * r) % r = j ∧ (i * (r * r * r) + (j * (r * r) + (k * r + l))) / r % r = k ∧ (i * (r * r * r) + (j * (r * r) + (k * r + l))) % r = l := by
      rcases (show r = 1 ∨ r = 2 ∨ r = 3 ∨ r = 4 ∨ r = 5 by omega) with rfl | rfl | rfl | rfl | rfl <;> omega
    show (0, nI ((i * (r * r * r) + (j * (r * r) + (k * r + l))) / (r * r * r)), nI ((i * (r * r * r) + (j * (r * r) + (k * r + l))) / (r * r) % r), nI ((i * (r * r * r) + (j * (r * r) + (k * r + l))) / r % r), nI ((i * (r * r * r) + (j * (r * r) + (k * r + l))) % r)) = (0, nI i, nI j, nI k, nI l)
    rw [q.1, q.2.1, q.2.2.1, q.2.2.2]
theorem M_five_out {I : SI} {t r : Nat} {N : Nat → Nat} (h : TM I t r N) (ht : t < 7) (ho : OKT r N) : lp_X9_breaksSums_9 (nI t) (nI r) I FU 0 = some (en4 (lw5 r N)) := by
  obtain ⟨h1, h5, h9⟩ := id ho
  have hr4 : r * r * r * r ≤ 625 ∧ r * r * r ≤ 125 ∧ r * r ≤ 25 := by
    rcases (show r = 1 ∨ r = 2 ∨ r = 3 ∨ r = 4 ∨ r = 5 by omega) with rfl | rfl | rfl | rfl | rfl <;> decide
  obtain ⟨hr4, hr3, hr2⟩ := hr4
  have hrr : 0 < r * r := Nat.mul_pos h1 h1
  have hrrr : 0 < r * r * r := Nat.mul_pos hrr h1
  unfold lw5
  rw [← enF_en4 (bad5 N r) (fun i j k l => inferInstance) r h1 h5]
  refine fsLoop (fun n c => lp_X9_breaksSums_9 (nI t) (nI r) I n (nI c)) (r * r * r * r) (fun c => tst (bad5 N r (c / (r * r * r)) (c / (r * r) % r) (c / r % r) (c % r))) (enF4 r) (fun n => ?_) (fun n c hc => ?_) (r * r * r * r) 0 FU (Nat.zero_add _) (by unfold FU; omega)
  · show lp_X9_breaksSums_9 (nI t) (nI r) I (n + 1) (nI (r * r * r * r)) = _
    rw [lp_X9_breaksSums_9.eq_2, pk_mul, pk_mul, pk_mul, if_pos (nI_le (Nat.le_refl _) (by omega))]
    rfl
  · have hi : c / (r * r * r) < r := by
      rcases (show r = 1 ∨ r = 2 ∨ r = 3 ∨ r = 4 ∨ r = 5 by omega) with rfl | rfl | rfl | rfl | rfl <;> omega
    have hj : c / (r * r) % r < r := Nat.mod_lt _ h1
    have hk : c / r % r < r := Nat.mod_lt _ h1
    have hl : c % r < r := Nat.mod_lt _ h1
    have a := M_df h ht ho (nI c) hi hj hk hl
    have b := df_le ho hi hj hk hl
    have e : lp_X9_breaksSums_9 (nI t) (nI r) I (n + 1) (nI c) = if bad5 N r (c / (r * r * r)) (c / (r * r) % r) (c / r % r) (c % r) then some (0, nI (c / (r * r * r)), nI (c / (r * r) % r), nI (c / r % r), nI (c % r)) else lp_X9_breaksSums_9 (nI t) (nI r) I n (nI (c + 1)) := by
      have q0 : nI c / nI r - nI c / nI r / nI r * nI r = nI (c / r % r) := by rw [pk_div (by omega) h1 (by omega), pk_rem (Nat.lt_of_le_of_lt (Nat.div_le_self _ _) (by omega)) h1 (by omega)]
      have q1 : nI c - nI c / nI r * nI r = nI (c % r) := pk_rem (by omega) h1 (by omega)
      have q2 : nI c / nI (r * r) - nI c / nI (r * r) / nI r * nI r = nI (c / (r * r) % r) := by rw [pk_div (by omega) hrr (by omega), pk_rem (Nat.lt_of_le_of_lt (Nat.div_le_self _ _) (by omega)) h1 (by omega)]
      rw [lp_X9_breaksSums_9.eq_2, pk_mul, pk_mul, pk_mul, if_neg (le_nI (by omega) (by omega) (by omega)), gd_nz hrrr (by omega), gd_nz hrr (by omega), gd_nz h1 (by omega), gd_nz h1 (by omega), gd_nz h1 (by omega), gd_nz h1 (by omega), q0, q1, q2, pk_div (by omega) hrrr (by omega), bd_ok a, n1, nI_add]
      by_cases q : bad5 N r (c / (r * r * r)) (c / (r * r) % r) (c / r % r) (c % r)
      · rw [if_pos q, if_neg (fun z => q ((iI_inj (by omega) (by omega) (by omega) (by omega)).mp (z.trans (show (0 : Int32) = iI 0 from rfl))))]
      · rw [if_neg q, if_pos (by rw [Decidable.not_not.mp q]; rfl)]
    by_cases hb : bad5 N r (c / (r * r * r)) (c / (r * r) % r) (c / r % r) (c % r)
    · exact Or.inl ⟨(), tst_t hb, by show lp_X9_breaksSums_9 (nI t) (nI r) I (n + 1) (nI c) = _; rw [e, if_pos hb]; rfl⟩
    · exact Or.inr ⟨tst_f hb, by show lp_X9_breaksSums_9 (nI t) (nI r) I (n + 1) (nI c) = _; rw [e, if_neg hb]⟩
