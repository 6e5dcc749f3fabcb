/-! LAWS, third part: partners, law 5 -/
/-- the id's place i gets the last partner below m -/
def partU (id : Nat) (I : SI) (i : Nat) (N : Nat → Nat) : Nat → SI
  | 0 => I
  | n + 1 => if 0 < nn N i n 0 then ups (partU id I i N n) id i (nI n) else partU id I i N n
def PU (id : Nat) (I : SI) (N : Nat → Nat) (r : Nat) : Nat → SI
  | 0 => I
  | i + 1 => partU id (PU id I N r i) i N r
theorem partU_fr (id : Nat) (I : SI) (i : Nat) (N : Nat → Nat) : ∀ n, Fr [id] I (partU id I i N n) := by
  intro n
  induction n with
  | zero => exact Fr.rf
  | succ n ih =>
    rw [partU]
    by_cases h : 0 < nn N i n 0
    · rw [if_pos h]; exact ih.ups List.mem_cons_self
    · rw [if_neg h]; exact ih
theorem PU_fr (id : Nat) (I : SI) (N : Nat → Nat) (r : Nat) : ∀ i, Fr [id] I (PU id I N r i) := by
  intro i
  induction i with
  | zero => exact Fr.rf
  | succ i ih => rw [PU]; exact ih.trans (partU_fr id _ i N r)
theorem partU_at (id : Nat) (I : SI) (i : Nat) (N : Nat → Nat) : ∀ n, sN (fun j => nn N i j 0) n ≠ 0 → partU id I i N n id i = nI (ptn N i n) := by
  intro n
  induction n with
  | zero => intro h; exact absurd rfl h
  | succ n ih =>
    intro h
    rw [partU, ptn]
    by_cases q : 0 < nn N i n 0
    · rw [if_pos q, if_pos q, ups_same]
    · rw [if_neg q, if_neg q]
      refine ih (fun z => h ?_)
      rw [sN, z]
      show 0 + nn N i n 0 = 0
      omega
theorem partU_ne (id : Nat) (I : SI) (i : Nat) (N : Nat → Nat) {j : Nat} (hj : j ≠ i) : ∀ n, partU id I i N n id j = I id j := by
  intro n
  induction n with
  | zero => rfl
  | succ n ih =>
    rw [partU]
    by_cases q : 0 < nn N i n 0
    · rw [if_pos q, ups_at, if_neg hj]; exact ih
    · rw [if_neg q]; exact ih
theorem PU_at (id : Nat) (I : SI) (N : Nat → Nat) (r : Nat) (h : ∀ i, i < r → ¬ bad3 N r i) : ∀ m, m ≤ r → ∀ i, i < m → PU id I N r m id i = nI (ptn N i r) := by
  intro m
  induction m with
  | zero => intro _ i hi; omega
  | succ m ih =>
    intro hm i hi
    rw [PU]
    by_cases e : i = m
    · subst e
      exact partU_at id _ i N r (fun z => by have := Decidable.not_not.mp (h i (by omega)); omega)
    · rw [partU_ne id _ m N e]
      exact ih (by omega) i (by omega)
theorem sN_le (f : Nat → Nat) (n : Nat) : ∀ r, (∀ j, j < r → f j ≤ n) → sN f r ≤ r * n := by
  intro r
  induction r with
  | zero => intro _; simp [sN]
  | succ r ih =>
    intro h
    rw [sN, Nat.add_mul, Nat.one_mul]
    have := ih (fun j hj => h j (by omega))
    have := h r (by omega)
    omega
theorem sN_mono (f : Nat → Nat) : ∀ {a b : Nat}, a ≤ b → sN f a ≤ sN f b := by
  intro a b h
  induction b with
  | zero => rw [Nat.le_zero.mp h]; exact Nat.le_refl _
  | succ b ih =>
    by_cases e : a = b + 1
    · rw [e]; exact Nat.le_refl _
    · have := ih (by omega)
      rw [sN]
      omega
def enP (id : Nat) (I : SI) (N : Nat → Nat) (r : Nat) (o : Option (Nat × Unit)) : Nat × Int32 × SI := match o with
  | none => (1, 0, PU id I N r r)
  | some (i, _) => (0, nI i, PU id I N r (i + 1))
theorem B_part_in {I : SI} {x r : Nat} {N : Nat → Nat} (h : TB I x r N) (hx : x < 8) (ho : OKT r N) (i : Nat) (hi : i < r) : lp_X1_partnersHold_15 x (nI i) FU 0 0 I = some (nI (sN (fun j => nn N i j 0) r), partU 17 I i N r) := by
  obtain ⟨h1, h5, h9⟩ := id ho
  refine upLoop (fun n j => lp_X1_partnersHold_15 x (nI i) n (nI (sN (fun j => nn N i j 0) j)) (nI j) (partU 17 I i N j)) r _ (fun n => ?_) (fun n j hj => ?_) r 0 FU (Nat.zero_add r) (FUlt h5)
  · have ht := h.fr (partU_fr 17 I i N r) (by simp; omega) (by simp; omega)
    show lp_X1_partnersHold_15 x (nI i) (n + 1) _ (nI r) _ = _
    rw [lp_X1_partnersHold_15.eq_2, ht.1, if_pos (nI_le (Nat.le_refl _) (by omega))]
  · have ht := h.fr (partU_fr 17 I i N j) (by simp; omega) (by simp; omega)
    have a1 : f_X7_number x (nI i) (nI j) 0 (partU 17 I i N j) = some (nI (nn N i j 0)) := B_num ht (i := i) (j := j) (k := 0) (by omega) (by omega) (by omega)
    have b1 := ho.nn (i := i) (j := j) (k := 0) (by omega) (by omega) (by omega)
    show lp_X1_partnersHold_15 x (nI i) (n + 1) (nI (sN (fun j => nn N i j 0) j)) (nI j) (partU 17 I i N j) = lp_X1_partnersHold_15 x (nI i) n (nI (sN (fun j => nn N i j 0) (j + 1))) (nI (j + 1)) (partU 17 I i N (j + 1))
    rw [lp_X1_partnersHold_15.eq_2, ht.1, if_neg (le_nI (by omega) (by omega) (by omega)), bd_ok a1, bd_ok a1, nI_add, n1, nI_add, partU]
    by_cases q : 0 < nn N i j 0
    · rw [if_neg (show ¬ nI (nn N i j 0) ≤ 0 from nI_nle q (by omega)), gd_in (by omega) (by decide), cl (by omega), if_pos q]
      rfl
    · rw [if_pos (show nI (nn N i j 0) ≤ 0 by rw [show nn N i j 0 = 0 by omega]; decide), if_neg q]
      rfl
theorem B_part_out {I : SI} {x r : Nat} {N : Nat → Nat} (h : TB I x r N) (hx : x < 8) (ho : OKT r N) : lp_X1_partnersHold_2 x FU 0 I = some (enP 17 I N r (lw3 r N)) := by
  obtain ⟨h1, h5, h9⟩ := id ho
  refine fsLoop (fun n i => lp_X1_partnersHold_2 x n (nI i) (PU 17 I N r i)) r (fun i => tst (bad3 N r i)) (enP 17 I N r) (fun n => ?_) (fun n i hi => ?_) r 0 FU (Nat.zero_add r) (FUlt h5)
  · have ht := h.fr (PU_fr 17 I N r r) (by simp; omega) (by simp; omega)
    show lp_X1_partnersHold_2 x (n + 1) (nI r) (PU 17 I N r r) = _
    rw [lp_X1_partnersHold_2.eq_2, ht.1, if_pos (nI_le (Nat.le_refl _) (by omega))]
    rfl
  · have ht := h.fr (PU_fr 17 I N r i) (by simp; omega) (by simp; omega)
    have e := B_part_in ht hx ho i hi
    have hs : sN (fun j => nn N i j 0) r ≤ r * 9 := sN_le _ 9 r (fun j hj => ho.nn (by omega) (by omega) (by omega))
    have e2 : lp_X1_partnersHold_2 x (n + 1) (nI i) (PU 17 I N r i) = if bad3 N r i then some (0, nI i, PU 17 I N r (i + 1)) else lp_X1_partnersHold_2 x n (nI (i + 1)) (PU 17 I N r (i + 1)) := by
      rw [lp_X1_partnersHold_2.eq_2, ht.1, if_neg (le_nI (by omega) (by omega) (by omega)), bd_ok e]
      show (if nI (sN (fun j => nn N i j 0) r) = 1 then lp_X1_partnersHold_2 x n (nI i + 1) (partU 17 (PU 17 I N r i) i N r) else some (0, nI i, partU 17 (PU 17 I N r i) i N r)) = _
      rw [n1, nI_add]
      by_cases q : bad3 N r i
      · rw [if_pos q, if_neg (eq_nI (by omega) (by omega) q)]; rfl
      · rw [if_neg q, if_pos (by rw [Decidable.not_not.mp q])]; rfl
    by_cases hb : bad3 N r i
    · exact Or.inl ⟨(), tst_t hb, by show lp_X1_partnersHold_2 x (n + 1) (nI i) (PU 17 I N r i) = _; rw [e2, if_pos hb]; rfl⟩
    · exact Or.inr ⟨tst_f hb, by show lp_X1_partnersHold_2 x (n + 1) (nI i) (PU 17 I N r i) = _; rw [e2, if_neg hb]⟩
def wt (v : Nat) : Nat := if v = 0 then 0 else if v = 1 then 1 else 9
theorem wt_sum (f : Nat → Nat) : ∀ r, (sN f r = 0 ↔ sN (fun j => wt (f j)) r = 0) ∧ (sN f r = 1 ↔ sN (fun j => wt (f j)) r = 1) := by
  intro r
  induction r with
  | zero => exact ⟨Iff.rfl, Iff.rfl⟩
  | succ r ih =>
    rw [sN, sN]
    obtain ⟨a, b⟩ := ih
    have hw : (f r = 0 ∧ wt (f r) = 0) ∨ (f r = 1 ∧ wt (f r) = 1) ∨ (2 ≤ f r ∧ wt (f r) = 9) := by
      unfold wt
      by_cases h0 : f r = 0
      · simp [h0]
      · by_cases h1 : f r = 1
        · simp [h1]
        · simp [h0, h1]; omega
    rcases hw with ⟨h1, h2⟩ | ⟨h1, h2⟩ | ⟨h1, h2⟩
    · rw [h2, h1]; exact ⟨by omega, by omega⟩
    · rw [h2, h1]; exact ⟨by omega, by omega⟩
    · rw [h2]; exact ⟨by omega, by omega⟩
theorem ups_self (I : SI) (k i : Nat) : ups I k i (I k i) = I := by
  funext a b
  by_cases h : a = k
  · subst h
    rw [ups_at]
    by_cases q : b = i
    · rw [if_pos q, q]
    · rw [if_neg q]
  · rw [ups_id h]
theorem M_part_in {I : SI} {t r : Nat} {N : Nat → Nat} (h : TM I t r N) (ht : t < 7) (ho : OKT r N) (i : Nat) (hi : i < r) : lp_X9_breaksPartners_17 (nI t) (nI i) FU 0 0 I = some (nI (sN (fun j => wt (nn N i j 0)) r), partU 3 I i N r) := by
  obtain ⟨h1, h5, h9⟩ := id ho
  refine upLoop (fun n j => lp_X9_breaksPartners_17 (nI t) (nI i) n (nI (sN (fun j => wt (nn N i j 0)) j)) (nI j) (partU 3 I i N j)) r _ (fun n => ?_) (fun n j hj => ?_) r 0 FU (Nat.zero_add r) (FUlt h5)
  · have hq := h.fr (partU_fr 3 I i N r) (by decide) (by decide)
    show lp_X9_breaksPartners_17 (nI t) (nI i) (n + 1) _ (nI r) _ = _
    rw [lp_X9_breaksPartners_17.eq_2, gd_in (by omega) (by decide), cl (by omega), hq.1, if_pos (nI_le (Nat.le_refl _) (by omega))]
  · have hq := h.fr (partU_fr 3 I i N j) (by decide) (by decide)
    have a1 : f_X9_n (nI t) (nI i) (nI j) 0 (partU 3 I i N j) = some (nI (nn N i j 0)) := M_num hq ht (i := i) (j := j) (k := 0) (by omega) (by omega) (by omega)
    have b1 := ho.nn (i := i) (j := j) (k := 0) (by omega) (by omega) (by omega)
    show lp_X9_breaksPartners_17 (nI t) (nI i) (n + 1) (nI (sN (fun j => wt (nn N i j 0)) j)) (nI j) (partU 3 I i N j) = lp_X9_breaksPartners_17 (nI t) (nI i) n (nI (sN (fun j => wt (nn N i j 0)) (j + 1))) (nI (j + 1)) (partU 3 I i N (j + 1))
    rw [lp_X9_breaksPartners_17.eq_2, gd_in (by omega) (by decide), cl (by omega), hq.1, if_neg (le_nI (by omega) (by omega) (by omega)), bd_ok a1, partU]
    have hc : gd (nI i < 0 ∨ 5 ≤ (nI i).toNatClampNeg) = (fun (x : Option (Int32 × SI)) => x) := funext (fun x => gd_in (by omega) (by decide))
    have hsum : sN (fun j => wt (nn N i j 0)) (j + 1) = sN (fun j => wt (nn N i j 0)) j + wt (nn N i j 0) := rfl
    simp only [hc, hsum]
    rw [cl (show i < 2 ^ 31 by omega)]
    by_cases q : 0 < nn N i j 0
    · rw [if_neg (nI_ne0 q (by omega)), if_pos q]
      by_cases q1 : nn N i j 0 = 1
      · rw [if_pos (show nI (nn N i j 0) = 1 by rw [q1]; rfl), if_neg (nI_nle q (by omega)), n1, nI_add, nI_add, wt, if_neg (by omega), if_pos q1]
      · rw [if_neg (show ¬ nI (nn N i j 0) = 1 from eq_nI (b := 1) (by omega) (by omega) q1), if_neg (nI_nle q (by omega)), n1, n9, nI_add, nI_add, wt, if_neg (by omega), if_neg q1]
    · have e0 : nn N i j 0 = 0 := by omega
      rw [e0, if_pos (show nI 0 = 0 from rfl), if_pos (show nI 0 ≤ 0 by decide), if_neg (by omega), ups_self, n0, n1, nI_add, nI_add]
      rfl
theorem M_part_out {I : SI} {t r : Nat} {N : Nat → Nat} (h : TM I t r N) (ht : t < 7) (ho : OKT r N) : lp_X9_breaksPartners_2 (nI t) FU 0 I = some (enP 3 I N r (lw3 r N)) := by
  obtain ⟨h1, h5, h9⟩ := id ho
  refine fsLoop (fun n i => lp_X9_breaksPartners_2 (nI t) n (nI i) (PU 3 I N r i)) r (fun i => tst (bad3 N r i)) (enP 3 I N r) (fun n => ?_) (fun n i hi => ?_) r 0 FU (Nat.zero_add r) (FUlt h5)
  · have hq := h.fr (PU_fr 3 I N r r) (by decide) (by decide)
    show lp_X9_breaksPartners_2 (nI t) (n + 1) (nI r) (PU 3 I N r r) = _
    rw [lp_X9_breaksPartners_2.eq_2, gd_in (by omega) (by decide), cl (by omega), hq.1, if_pos (nI_le (Nat.le_refl _) (by omega))]
    rfl
  · have hq := h.fr (PU_fr 3 I N r i) (by decide) (by decide)
    have e := M_part_in hq ht ho i hi
    have hs : sN (fun j => wt (nn N i j 0)) r ≤ r * 9 := sN_le _ 9 r (fun j hj => by show wt _ ≤ 9; unfold wt; split <;> (try split) <;> omega)
    have hw := (wt_sum (fun j => nn N i j 0) r).2
    have e2 : lp_X9_breaksPartners_2 (nI t) (n + 1) (nI i) (PU 3 I N r i) = if bad3 N r i then some (0, nI i, PU 3 I N r (i + 1)) else lp_X9_breaksPartners_2 (nI t) n (nI (i + 1)) (PU 3 I N r (i + 1)) := by
      rw [lp_X9_breaksPartners_2.eq_2, gd_in (by omega) (by decide), cl (by omega), hq.1, if_neg (le_nI (by omega) (by omega) (by omega)), bd_ok e]
      show (if nI (sN (fun j => wt (nn N i j 0)) r) = 1 then lp_X9_breaksPartners_2 (nI t) n (nI i + 1) (partU 3 (PU 3 I N r i) i N r) else some (0, nI i, partU 3 (PU 3 I N r i) i N r)) = _
      rw [n1, nI_add]
      by_cases q : bad3 N r i
      · rw [if_pos q, if_neg (eq_nI (by omega) (by omega) (fun z => q (hw.mpr z)))]; rfl
      · rw [if_neg q, if_pos (by rw [hw.mp (Decidable.not_not.mp q)])]; rfl
    by_cases hb : bad3 N r i
    · exact Or.inl ⟨(), tst_t hb, by show lp_X9_breaksPartners_2 (nI t) (n + 1) (nI i) (PU 3 I N r i) = _; rw [e2, if_pos hb]; rfl⟩
    · exact Or.inr ⟨tst_f hb, by show lp_X9_breaksPartners_2 (nI t) (n + 1) (nI i) (PU 3 I N r i) = _; rw [e2, if_neg hb]⟩
