/-! LISTS: the table of a row of free numbers, laid by class and reference -/
def isP (r p c : Nat) : Bool := decide (c % 5 = 0) && decide (1 ≤ c / 25) && decide (c / 25 < r) && decide (c / 5 % 5 = mat p (c / 25))
def cN (r p : Nat) (w : Nat → Nat) (c : Nat) : Nat := if inn r c = true then w (fx r p c) else if isP r p c = true then 1 else unitN r c
def cV (r p : Nat) (w : Nat → Nat) (cur b c : Nat) : Nat := if inn r c = true then (if c < cur then w (fx r p c) else 0) else if isP r p c = true ∧ c / 25 < b then 1 else unitN r c
def cW (r p : Nat) (w : Nat → Nat) (cur b c : Nat) : Nat := if inn r c = true then (if c < cur ∨ fs r p (fx r p c) = c then w (fx r p c) else 0) else if isP r p c = true ∧ c / 25 < b then 1 else unitN r c
def cX (r p : Nat) (w : Nat → Nat) (g c : Nat) : Nat := if inn r c = true then (if fs r p (fx r p c) = c ∧ g ≤ fx r p c then w (fx r p c) else 0) else unitN r c
theorem unit_in : ∀ r, r < 5 → ∀ c, c < 125 → inn r c = true → unitN r c = 0 := by decide +kernel
theorem inn_d {r c : Nat} (h : inn r c = true) : 1 ≤ c / 25 ∧ c / 25 < r ∧ 1 ≤ c / 5 % 5 ∧ c / 5 % 5 < r ∧ 1 ≤ c % 5 ∧ c % 5 < r := by
  unfold inn at h
  simp only [Bool.and_eq_true, decide_eq_true_eq] at h
  omega
theorem isP_d {r p c : Nat} (h : isP r p c = true) : c % 5 = 0 ∧ 1 ≤ c / 25 ∧ c / 25 < r ∧ c / 5 % 5 = mat p (c / 25) := by
  unfold isP at h
  simp only [Bool.and_eq_true, decide_eq_true_eq] at h
  omega
theorem isP_i {r p c : Nat} (h : c % 5 = 0 ∧ 1 ≤ c / 25 ∧ c / 25 < r ∧ c / 5 % 5 = mat p (c / 25)) : isP r p c = true := by
  unfold isP
  simp only [Bool.and_eq_true, decide_eq_true_eq]
  omega
theorem mat_lt {r p i : Nat} (h : cfg r p) (h1 : 1 ≤ i) (hi : i < r) : 1 ≤ mat p i ∧ mat p i < r := by
  unfold cfg at h
  unfold mat
  by_cases q : p = 1
  · rw [if_pos q]
    by_cases a : i = 1
    · rw [if_pos a]; omega
    · rw [if_neg a]
      by_cases b : i = 2
      · rw [if_pos b]; omega
      · rw [if_neg b]; omega
  · rw [if_neg q]; omega
theorem mat_mat (p i : Nat) : mat p (mat p i) = i := by
  unfold mat
  by_cases q : p = 1
  · rw [if_pos q]
    by_cases a : i = 1
    · subst a; simp [q]
    · by_cases b : i = 2
      · subst b; simp [q]
      · simp [q, a, b]
  · simp [q]
theorem mateM : ∀ p, p < 2 → ∀ i, i < 5 → f_X9_mate (nI i) (nI p) = some (nI (mat p i)) := by decide +kernel
theorem mateB {I : SI} {p : Nat} (hp : p < 2) (h : I 52 0 = nI p) {i : Nat} (hi : i < 5) : f_X2_partnerOf (nI i) I = some (nI (mat p i)) := by
  have e := mateM p hp i hi
  unfold f_X2_partnerOf
  rw [h]
  exact e
theorem nIm1 {a : Nat} (h : a < 2 ^ 31) : ¬ nI a = -1 := fun e => by
  have := congrArg Int32.toInt e
  rw [nI_toInt h, show (-1 : Int32).toInt = -1 from rfl] at this
  omega
theorem BT.congr {I I' : SI} {x r : Nat} {N N' : Nat → Nat} (h : BT x r N I I') (e : ∀ c, c < 125 → N c = N' c) : BT x r N' I I' := ⟨h.1, h.2.congr e⟩
theorem MT.congr {I I' : SI} {x r : Nat} {N N' : Nat → Nat} (h : MT x r N I I') (e : ∀ c, c < 125 → N c = N' c) : MT x r N' I I' := ⟨h.1, h.2.congr e⟩
/-- no inner place between: the same -/
theorem cV_mv {r p : Nat} {w : Nat → Nat} {cur cur' b : Nat} (h : ∀ c, inn r c = true → (c < cur ↔ c < cur')) (c : Nat) : cV r p w cur b c = cV r p w cur' b c := by
  unfold cV
  by_cases q : inn r c = true
  · rw [if_pos q, if_pos q]
    have := h c q
    by_cases y : c < cur
    · rw [if_pos y, if_pos (this.mp y)]
    · rw [if_neg y, if_neg (fun z => y (this.mpr z))]
  · rw [if_neg q, if_neg q]
theorem cW_mv {r p : Nat} {w : Nat → Nat} {cur cur' b : Nat} (h : ∀ c, inn r c = true → (c < cur ↔ c < cur')) (c : Nat) : cW r p w cur b c = cW r p w cur' b c := by
  unfold cW
  by_cases q : inn r c = true
  · rw [if_pos q, if_pos q]
    have := h c q
    by_cases y : c < cur ∨ fs r p (fx r p c) = c
    · rw [if_pos y, if_pos (y.imp this.mp id)]
    · rw [if_neg y, if_neg (fun z => y (z.imp this.mpr id))]
  · rw [if_neg q, if_neg q]
theorem cV_put {r p : Nat} {w : Nat → Nat} {c0 b : Nat} (h : inn r c0 = true) (c : Nat) : setN (cV r p w c0 b) c0 (w (fx r p c0)) c = cV r p w (c0 + 1) b c := by
  unfold setN
  by_cases e : c = c0
  · subst e
    rw [if_pos rfl]
    unfold cV
    rw [if_pos h, if_pos (by omega)]
  · rw [if_neg e]
    unfold cV
    by_cases q : inn r c = true
    · rw [if_pos q, if_pos q]
      by_cases y : c < c0
      · rw [if_pos y, if_pos (by omega)]
      · rw [if_neg y, if_neg (by omega)]
    · rw [if_neg q, if_neg q]
theorem cW_put {r p : Nat} {w : Nat → Nat} {c0 b : Nat} (h : inn r c0 = true) (c : Nat) : setN (cW r p w c0 b) c0 (w (fx r p c0)) c = cW r p w (c0 + 1) b c := by
  unfold setN
  by_cases e : c = c0
  · subst e
    rw [if_pos rfl]
    unfold cW
    rw [if_pos h, if_pos (Or.inl (by omega))]
  · rw [if_neg e]
    unfold cW
    by_cases q : inn r c = true
    · rw [if_pos q, if_pos q]
      by_cases y : c < c0 ∨ fs r p (fx r p c) = c
      · rw [if_pos y, if_pos (y.imp (fun _ => by omega) id)]
      · rw [if_neg y, if_neg (fun z => y (z.imp (fun _ => by omega) id))]
    · rw [if_neg q, if_neg q]
theorem part_at {r p i : Nat} (h : cfg r p) (h1 : 1 ≤ i) (hi : i < r) : (25 * i + 5 * mat p i + 0) / 25 = i ∧ ¬ inn r (25 * i + 5 * mat p i + 0) = true ∧ isP r p (25 * i + 5 * mat p i + 0) = true := by
  have m := mat_lt h h1 hi
  have l := cfg_le h
  have e : (25 * i + 5 * mat p i + 0) / 25 = i := by omega
  refine ⟨e, fun q => ?_, isP_i ⟨by omega, by omega, by omega, ?_⟩⟩
  · have := inn_d q
    omega
  · rw [e]; omega
theorem cV_part {r p : Nat} {w : Nat → Nat} {cur i : Nat} (h : cfg r p) (h1 : 1 ≤ i) (hi : i < r) (c : Nat) (hc : c < 125) : setN (cV r p w cur i) (25 * i + 5 * mat p i + 0) 1 c = cV r p w cur (i + 1) c := by
  obtain ⟨a1, a2, a3⟩ := part_at h h1 hi
  have m := mat_lt h h1 hi
  have l := cfg_le h
  unfold setN
  by_cases e : c = 25 * i + 5 * mat p i + 0
  · rw [if_pos e, e]
    unfold cV
    rw [if_neg a2, if_pos ⟨a3, by omega⟩]
  · rw [if_neg e]
    unfold cV
    by_cases q : inn r c = true
    · rw [if_pos q, if_pos q]
    · rw [if_neg q, if_neg q]
      by_cases y : isP r p c = true ∧ c / 25 < i
      · rw [if_pos y, if_pos ⟨y.1, by omega⟩]
      · rw [if_neg y, if_neg (fun z => ?_)]
        have d := isP_d z.1
        have ci : c / 25 = i := by
          have : ¬ c / 25 < i := fun q => y ⟨z.1, q⟩
          omega
        rw [ci] at d
        omega
theorem cW_part {r p : Nat} {w : Nat → Nat} {cur i : Nat} (h : cfg r p) (h1 : 1 ≤ i) (hi : i < r) (c : Nat) (hc : c < 125) : setN (cW r p w cur i) (25 * i + 5 * mat p i + 0) 1 c = cW r p w cur (i + 1) c := by
  obtain ⟨a1, a2, a3⟩ := part_at h h1 hi
  have m := mat_lt h h1 hi
  have l := cfg_le h
  unfold setN
  by_cases e : c = 25 * i + 5 * mat p i + 0
  · rw [if_pos e, e]
    unfold cW
    rw [if_neg a2, if_pos ⟨a3, by omega⟩]
  · rw [if_neg e]
    unfold cW
    by_cases q : inn r c = true
    · rw [if_pos q, if_pos q]
    · rw [if_neg q, if_neg q]
      by_cases y : isP r p c = true ∧ c / 25 < i
      · rw [if_pos y, if_pos ⟨y.1, by omega⟩]
      · rw [if_neg y, if_neg (fun z => ?_)]
        have d := isP_d z.1
        have ci : c / 25 = i := by
          have : ¬ c / 25 < i := fun q => y ⟨z.1, q⟩
          omega
        rw [ci] at d
        omega
theorem cV_0 {r p : Nat} {w : Nat → Nat} (h : r ≤ 4) (c : Nat) (hc : c < 125) : unitN r c = cV r p w 31 1 c := by
  unfold cV
  by_cases q : inn r c = true
  · have d := inn_d q
    rw [if_pos q, if_neg (by omega), unit_in r (by omega) c hc q]
  · rw [if_neg q, if_neg (fun z => by have := isP_d z.1; omega)]
theorem cV_r {r p : Nat} {w : Nat → Nat} (c : Nat) (hc : c < 125) : cV r p w (25 * r + 6) r c = cN r p w c := by
  unfold cV cN
  by_cases q : inn r c = true
  · have d := inn_d q
    rw [if_pos q, if_pos q, if_pos (by omega)]
  · rw [if_neg q, if_neg q]
    by_cases y : isP r p c = true
    · rw [if_pos y, if_pos ⟨y, (isP_d y).2.2.1⟩]
    · rw [if_neg y, if_neg (fun z => y z.1)]
theorem cW_r {r p : Nat} {w : Nat → Nat} (c : Nat) (hc : c < 125) : cW r p w (25 * r + 6) r c = cN r p w c := by
  unfold cW cN
  by_cases q : inn r c = true
  · have d := inn_d q
    rw [if_pos q, if_pos q, if_pos (Or.inl (by omega))]
  · rw [if_neg q, if_neg q]
    by_cases y : isP r p c = true
    · rw [if_pos y, if_pos ⟨y, (isP_d y).2.2.1⟩]
    · rw [if_neg y, if_neg (fun z => y z.1)]
theorem cX_W {r p : Nat} {w : Nat → Nat} (c : Nat) : cX r p w 0 c = cW r p w 31 1 c := by
  unfold cX cW
  by_cases q : inn r c = true
  · have d := inn_d q
    rw [if_pos q, if_pos q]
    by_cases y : fs r p (fx r p c) = c
    · rw [if_pos ⟨y, Nat.zero_le _⟩, if_pos (Or.inr y)]
    · rw [if_neg (fun z => y z.1), if_neg (fun z => z.elim (fun z => by omega) y)]
  · rw [if_neg q, if_neg q, if_neg (fun z => by have := isP_d z.1; omega)]
theorem cX_F {r p : Nat} {w : Nat → Nat} (h : cfg r p) (c : Nat) (hc : c < 125) : unitN r c = cX r p w (FT r p) c := by
  have l := cfg_le h
  unfold cX
  by_cases q : inn r c = true
  · have d := inn_d q
    have t := (tabT h).1 (c / 25) (c / 5 % 5) (c % 5) (by omega) (by omega) (by omega) (by rw [show 25 * (c / 25) + 5 * (c / 5 % 5) + c % 5 = c by omega]; exact q)
    rw [show 25 * (c / 25) + 5 * (c / 5 % 5) + c % 5 = c by omega] at t
    rw [if_pos q, if_neg (by omega), unit_in r (by omega) c hc q]
  · rw [if_neg q]
theorem cX_put {r p : Nat} {w : Nat → Nat} (h : cfg r p) {f : Nat} (hf : f < FT r p) (c : Nat) : setN (cX r p w (f + 1)) (fs r p f) (w f) c = cX r p w f c := by
  obtain ⟨t1, t2, t3⟩ := (tabT h).2.1 f hf
  unfold setN
  by_cases e : c = fs r p f
  · rw [if_pos e, e]
    unfold cX
    rw [if_pos t1, t2, if_pos ⟨rfl, Nat.le_refl _⟩]
  · rw [if_neg e]
    unfold cX
    by_cases q : inn r c = true
    · rw [if_pos q, if_pos q]
      by_cases y : fs r p (fx r p c) = c ∧ f + 1 ≤ fx r p c
      · rw [if_pos y, if_pos ⟨y.1, by omega⟩]
      · rw [if_neg y, if_neg (fun z => ?_)]
        refine y ⟨z.1, ?_⟩
        have : fx r p c ≠ f := fun q => e (by rw [← q]; exact z.1.symm)
        omega
    · rw [if_neg q, if_neg q]
section LB
variable {r p : Nat} {w : Nat → Nat} {I : SI}
theorem BC_48 (h : cfg r p) (h50 : I 50 0 = nI r) (h22 : ∀ c, c < 125 → inn r c = true → I 22 c = nI (fx r p c)) (h23 : ∀ f, f < FT r p → I 23 f = nI (w f)) {i j : Nat} (hi1 : 1 ≤ i) (hi : i < r) (hj1 : 1 ≤ j) (hj : j < r) {S : SI} (hS : BT 7 r (cV r p w (25 * i + 5 * j + 1) (i + 1)) I S) :
    ∃ I', lp_X2_buildCandidate_48 (nI i) (nI j) FU 1 S = some I' ∧ BT 7 r (cV r p w (25 * i + 5 * j + r) (i + 1)) I I' := by
  have l := cfg_le h
  have ft := (tabT h).2.2.2
  refine exLoop (fun n k S => lp_X2_buildCandidate_48 (nI i) (nI j) n (nI k) S) r (fun k S => 1 ≤ k ∧ BT 7 r (cV r p w (25 * i + 5 * j + k) (i + 1)) I S) _ (fun n S hS => ?_) (fun n k S hk hS => ?_) (r - 1) 1 FU S (by omega) (by unfold FU; omega) ⟨Nat.le_refl _, hS⟩
  · refine ⟨S, ?_, hS.2⟩
    show lp_X2_buildCandidate_48 (nI i) (nI j) (n + 1) (nI r) S = _
    rw [lp_X2_buildCandidate_48.eq_2, hS.2.1 50 (by decide), h50, if_pos (nI_le (Nat.le_refl _) (by omega))]
  · obtain ⟨k1, hS⟩ := hS
    have hin : inn r (25 * i + 5 * j + k) = true := (inn_iff (by omega) (by omega) (by omega)).mpr (by omega)
    have hx := ((tabT h).1 i j k (by omega) (by omega) (by omega) hin).1
    obtain ⟨I2, e2, f2⟩ := B_step (i := i) (j := j) (k := k) hS (w (fx r p (25 * i + 5 * j + k))) (by omega)
    refine ⟨I2, ?_, by omega, f2.congr (fun c _ => cV_put hin c)⟩
    show lp_X2_buildCandidate_48 (nI i) (nI j) (n + 1) (nI k) S = lp_X2_buildCandidate_48 (nI i) (nI j) n (nI (k + 1)) I2
    have p1 : S 22 (25 * i + 5 * j + k) = nI (fx r p (25 * i + 5 * j + k)) := by rw [hS.1 22 (by decide)]; exact h22 _ (by omega) hin
    have p2 : S 23 (fx r p (25 * i + 5 * j + k)) = nI (w (fx r p (25 * i + 5 * j + k))) := by rw [hS.1 23 (by decide)]; exact h23 _ hx
    rw [lp_X2_buildCandidate_48.eq_2, hS.1 50 (by decide), h50, if_neg (le_nI (by omega) (by omega) (by omega)), bd_ok (e_placeOf i j k), gd_in (show 25 * i + 5 * j + k < 125 by omega) (by decide), cl (show 25 * i + 5 * j + k < 2 ^ 31 by omega), p1, if_neg (nIm1 (by omega)), gd_in (show fx r p (25 * i + 5 * j + k) < 10 by omega) (by decide), cl (show fx r p (25 * i + 5 * j + k) < 2 ^ 31 by omega), p2, bd_ok e2, show nI k + 1 = nI (k + 1) from nI_1 k]
theorem BC_38 (h : cfg r p) (h50 : I 50 0 = nI r) (h22 : ∀ c, c < 125 → inn r c = true → I 22 c = nI (fx r p c)) (h23 : ∀ f, f < FT r p → I 23 f = nI (w f)) {i : Nat} (hi1 : 1 ≤ i) (hi : i < r) {S : SI} (hS : BT 7 r (cV r p w (25 * i + 6) (i + 1)) I S) :
    ∃ I', lp_X2_buildCandidate_38 (nI i) FU 1 S = some I' ∧ BT 7 r (cV r p w (25 * (i + 1) + 6) (i + 1)) I I' := by
  have l := cfg_le h
  refine exLoop (fun n j S => lp_X2_buildCandidate_38 (nI i) n (nI j) S) r (fun j S => 1 ≤ j ∧ BT 7 r (cV r p w (25 * i + 5 * j + 1) (i + 1)) I S) _ (fun n S hS => ?_) (fun n j S hj hS => ?_) (r - 1) 1 FU S (by omega) (by unfold FU; omega) ⟨Nat.le_refl _, hS⟩
  · refine ⟨S, ?_, hS.2.congr (fun c _ => cV_mv (fun c hc => ?_) c)⟩
    · show lp_X2_buildCandidate_38 (nI i) (n + 1) (nI r) S = _
      rw [lp_X2_buildCandidate_38.eq_2, hS.2.1 50 (by decide), h50, if_pos (nI_le (Nat.le_refl _) (by omega))]
    · have d := inn_d hc
      omega
  · obtain ⟨j1, hS⟩ := hS
    obtain ⟨I2, e2, f2⟩ := BC_48 h h50 h22 h23 hi1 hi j1 hj hS
    refine ⟨I2, ?_, by omega, f2.congr (fun c _ => cV_mv (fun c hc => ?_) c)⟩
    · show lp_X2_buildCandidate_38 (nI i) (n + 1) (nI j) S = lp_X2_buildCandidate_38 (nI i) n (nI (j + 1)) I2
      rw [lp_X2_buildCandidate_38.eq_2, hS.1 50 (by decide), h50, if_neg (le_nI (by omega) (by omega) (by omega)), bd_ok e2, show nI j + 1 = nI (j + 1) from nI_1 j]
    · have d := inn_d hc
      omega
theorem B_build (h : cfg r p) (h50 : I 50 0 = nI r) (h52 : I 52 0 = nI p) (h22 : ∀ c, c < 125 → inn r c = true → I 22 c = nI (fx r p c)) (h23 : ∀ f, f < FT r p → I 23 f = nI (w f)) :
    ∃ I', f_X2_buildCandidate I = some I' ∧ BT 7 r (cN r p w) I I' := by
  have l := cfg_le h
  obtain ⟨S, e1, b1⟩ := B_reset (x := 7) (r := r) (by decide) (by omega) I
  have key : ∃ I', lp_X2_buildCandidate_13 FU 1 S = some I' ∧ BT 7 r (cN r p w) I I' := by
    refine exLoop (fun n i S => lp_X2_buildCandidate_13 n (nI i) S) r (fun i S => 1 ≤ i ∧ BT 7 r (cV r p w (25 * i + 6) i) I S) _ (fun n S hS => ?_) (fun n i S hi hS => ?_) (r - 1) 1 FU S (by omega) (by unfold FU; omega) ⟨Nat.le_refl _, b1.congr (fun c hc => cV_0 (by omega) c hc)⟩
    · refine ⟨S, ?_, hS.2.congr (fun c hc => cV_r c hc)⟩
      show lp_X2_buildCandidate_13 (n + 1) (nI r) S = _
      rw [lp_X2_buildCandidate_13.eq_2, hS.2.1 50 (by decide), h50, if_pos (nI_le (Nat.le_refl _) (by omega))]
    · obtain ⟨i1, hS⟩ := hS
      have m := mat_lt h i1 hi
      obtain ⟨I2, e2, f2⟩ := B_step (i := i) (j := mat p i) (k := 0) hS 1 (by omega)
      obtain ⟨I3, e3, f3⟩ := BC_38 h h50 h22 h23 i1 hi (f2.congr (fun c hc => cV_part h i1 hi c hc))
      refine ⟨I3, ?_, by omega, f3⟩
      show lp_X2_buildCandidate_13 (n + 1) (nI i) S = lp_X2_buildCandidate_13 n (nI (i + 1)) I3
      rw [lp_X2_buildCandidate_13.eq_2, hS.1 50 (by decide), h50, if_neg (le_nI (by omega) (by omega) (by omega)), bd_ok (mateB (p := p) (by omega) (by rw [hS.1 52 (by decide)]; exact h52) (by omega)), bd_ok (show f_X7_setNumber 7 (nI i) (nI (mat p i)) 0 1 S = _ from e2), bd_ok e3, show nI i + 1 = nI (i + 1) from nI_1 i]
  obtain ⟨I', e2, b2⟩ := key
  refine ⟨I', ?_, b2⟩
  unfold f_X2_buildCandidate
  rw [h50, bd_ok e1, bd_ok e2]
end LB
def dgw (m F u f : Nat) : Nat := u / (m + 1) ^ (F - 1 - f) % (m + 1)
theorem cW_first {r p : Nat} {w : Nat → Nat} (h : cfg r p) {f : Nat} (hf : f < FT r p) (cur b : Nat) : cW r p w cur b (fs r p f) = w f := by
  obtain ⟨t1, t2, t3⟩ := (tabT h).2.1 f hf
  unfold cW
  rw [if_pos t1, t2, if_pos (Or.inr rfl)]
section LM
variable {r p m u : Nat} {w : Nat → Nat} {I : SI}
theorem MC_97 (h : cfg r p) (h4 : ∀ c, c < 125 → inn r c = true → I 4 c = nI (fs r p (fx r p c))) {i j : Nat} (hi1 : 1 ≤ i) (hi : i < r) (hj1 : 1 ≤ j) (hj : j < r) {S : SI} (hS : MT 6 r (cW r p w (25 * i + 5 * j + 1) (i + 1)) I S) :
    ∃ I', lp_X9_layOut_97 (nI r) (nI p) (nI i) (nI j) FU 1 S = some I' ∧ MT 6 r (cW r p w (25 * i + 5 * j + r) (i + 1)) I I' := by
  have l := cfg_le h
  refine exLoop (fun n k S => lp_X9_layOut_97 (nI r) (nI p) (nI i) (nI j) n (nI k) S) r (fun k S => 1 ≤ k ∧ MT 6 r (cW r p w (25 * i + 5 * j + k) (i + 1)) I S) _ (fun n S hS => ?_) (fun n k S hk hS => ?_) (r - 1) 1 FU S (by omega) (by unfold FU; omega) ⟨Nat.le_refl _, hS⟩
  · refine ⟨S, ?_, hS.2⟩
    show lp_X9_layOut_97 (nI r) (nI p) (nI i) (nI j) (n + 1) (nI r) S = _
    rw [lp_X9_layOut_97.eq_2, if_pos (nI_le (Nat.le_refl _) (by omega))]
  · obtain ⟨k1, hS⟩ := hS
    have hin : inn r (25 * i + 5 * j + k) = true := (inn_iff (by omega) (by omega) (by omega)).mpr (by omega)
    have hx := ((tabT h).1 i j k (by omega) (by omega) (by omega) hin).1
    obtain ⟨t1, t2, t3⟩ := (tabT h).2.1 _ hx
    obtain ⟨I2, e2, f2⟩ := M_step (t := 6) (i := i) (j := j) (k := k) (by decide) hS (w (fx r p (25 * i + 5 * j + k))) (by omega)
    refine ⟨I2, ?_, by omega, f2.congr (fun c _ => cW_put hin c)⟩
    show lp_X9_layOut_97 (nI r) (nI p) (nI i) (nI j) (n + 1) (nI k) S = lp_X9_layOut_97 (nI r) (nI p) (nI i) (nI j) n (nI (k + 1)) I2
    have p1 : S 4 (25 * i + 5 * j + k) = nI (fs r p (fx r p (25 * i + 5 * j + k))) := by rw [hS.1.1 4 (by decide) (by decide)]; exact h4 _ (by omega) hin
    have p2 : S 1 (750 + fs r p (fx r p (25 * i + 5 * j + k))) = nI (w (fx r p (25 * i + 5 * j + k))) := by
      have := hS.2.2 (fs r p (fx r p (25 * i + 5 * j + k))) t3
      rw [cW_first h hx] at this
      exact this
    rw [lp_X9_layOut_97.eq_2, if_neg (le_nI (by omega) (by omega) (by omega)), bd_ok (show f_X9_placeOf (nI i) (nI j) (nI k) = some (nI (25 * i + 5 * j + k)) by unfold f_X9_placeOf; rw [n25, n5, pk_mul, pk_mul, nI_add, nI_add]), gd_in (show 25 * i + 5 * j + k < 125 by omega) (by decide), cl (show 25 * i + 5 * j + k < 2 ^ 31 by omega), p1, show (750 : Int32) = nI 750 from rfl, nI_add, gd_in (show 750 + fs r p (fx r p (25 * i + 5 * j + k)) < 875 by omega) (by decide), cl (show 750 + fs r p (fx r p (25 * i + 5 * j + k)) < 2 ^ 31 by omega), p2, bd_ok (show f_X9_lay 6 (nI i) (nI j) (nI k) _ S = _ from e2), show nI k + 1 = nI (k + 1) from nI_1 k]
theorem MC_88 (h : cfg r p) (h4 : ∀ c, c < 125 → inn r c = true → I 4 c = nI (fs r p (fx r p c))) {i : Nat} (hi1 : 1 ≤ i) (hi : i < r) {S : SI} (hS : MT 6 r (cW r p w (25 * i + 6) (i + 1)) I S) :
    ∃ I', lp_X9_layOut_88 (nI r) (nI p) (nI i) FU 1 S = some I' ∧ MT 6 r (cW r p w (25 * (i + 1) + 6) (i + 1)) I I' := by
  have l := cfg_le h
  refine exLoop (fun n j S => lp_X9_layOut_88 (nI r) (nI p) (nI i) n (nI j) S) r (fun j S => 1 ≤ j ∧ MT 6 r (cW r p w (25 * i + 5 * j + 1) (i + 1)) I S) _ (fun n S hS => ?_) (fun n j S hj hS => ?_) (r - 1) 1 FU S (by omega) (by unfold FU; omega) ⟨Nat.le_refl _, hS⟩
  · refine ⟨S, ?_, hS.2.congr (fun c _ => cW_mv (fun c hc => ?_) c)⟩
    · show lp_X9_layOut_88 (nI r) (nI p) (nI i) (n + 1) (nI r) S = _
      rw [lp_X9_layOut_88.eq_2, if_pos (nI_le (Nat.le_refl _) (by omega))]
    · have d := inn_d hc
      omega
  · obtain ⟨j1, hS⟩ := hS
    obtain ⟨I2, e2, f2⟩ := MC_97 h h4 hi1 hi j1 hj hS
    refine ⟨I2, ?_, by omega, f2.congr (fun c _ => cW_mv (fun c hc => ?_) c)⟩
    · show lp_X9_layOut_88 (nI r) (nI p) (nI i) (n + 1) (nI j) S = lp_X9_layOut_88 (nI r) (nI p) (nI i) n (nI (j + 1)) I2
      rw [lp_X9_layOut_88.eq_2, if_neg (le_nI (by omega) (by omega) (by omega)), bd_ok e2, show nI j + 1 = nI (j + 1) from nI_1 j]
    · have d := inn_d hc
      omega
theorem MC_19 (h : cfg r p) (hm : m ≤ 3) (h5 : ∀ f, f < FT r p → I 5 f = nI (fs r p f)) (hu : u < 2 ^ 30) : ∀ g n (S : SI), g ≤ FT r p → g < n → MT 6 r (cX r p (dgw m (FT r p) u) g) I S → ∃ I', lp_X9_layOut_19 (nI r) (nI m) (nI p) n (nI (u / (m + 1) ^ (FT r p - g))) (iI ((g : Int) - 1)) S = some I' ∧ MT 6 r (cX r p (dgw m (FT r p) u) 0) I I' := by
  have ft := (tabT h).2.2.2
  intro g
  induction g with
  | zero =>
    intro n S hg hn hS
    obtain ⟨k, rfl⟩ : ∃ k, n = k + 1 := ⟨n - 1, by omega⟩
    exact ⟨S, by rw [lp_X9_layOut_19.eq_2]; exact if_pos (by decide), hS⟩
  | succ f ih =>
    intro n S hg hn hS
    obtain ⟨k, rfl⟩ : ∃ k, n = k + 1 := ⟨n - 1, by omega⟩
    obtain ⟨t1, t2, t3⟩ := (tabT h).2.1 f (by omega)
    have hb : u / (m + 1) ^ (FT r p - (f + 1)) < 2 ^ 31 := by have := Nat.div_le_self u ((m + 1) ^ (FT r p - (f + 1))); omega
    have hput : MT 6 r (setN (cX r p (dgw m (FT r p) u) (f + 1)) (fs r p f) (dgw m (FT r p) u f)) I (ups S 1 (750 + fs r p f) (nI (dgw m (FT r p) u f))) := ⟨hS.1.cell t3 _, hS.2.put _ _⟩
    obtain ⟨I', e, b⟩ := ih k _ (by omega) (by omega) (hput.congr (fun c _ => cX_put h (by omega) c))
    refine ⟨I', ?_, b⟩
    have p1 : S 5 f = nI (fs r p f) := by rw [hS.1.1 5 (by decide) (by decide)]; exact h5 f (by omega)
    rw [show ((f + 1 : Nat) : Int) - 1 = (f : Int) by omega, ← nI_iI, lp_X9_layOut_19.eq_2, if_neg (nI_pos (by omega)), gd_in (show f < 125 by omega) (by decide), cl (show f < 2 ^ 31 by omega), p1, show nI m + 1 = nI (m + 1) from nI_1 m, gd_nz (by omega) (by omega), show (750 : Int32) = nI 750 from rfl, nI_add, gd_in (show 750 + fs r p f < 875 by omega) (by decide), gd_nz (by omega) (by omega), cl (show 750 + fs r p f < 2 ^ 31 by omega), pk_rem hb (by omega) (by omega), pk_div hb (by omega) (by omega), im1, Nat.div_div_eq_div_mul, ← Nat.pow_succ, show (FT r p - (f + 1)).succ = FT r p - f by omega]
    have ed : u / (m + 1) ^ (FT r p - (f + 1)) % (m + 1) = dgw m (FT r p) u f := by unfold dgw; rw [show FT r p - 1 - f = FT r p - (f + 1) by omega]
    rw [ed]
    exact e
theorem M_lay (h : cfg r p) (hm : m ≤ 3) (h14 : I 14 0 = nI (FT r p)) (h4 : ∀ c, c < 125 → inn r c = true → I 4 c = nI (fs r p (fx r p c))) (h5 : ∀ f, f < FT r p → I 5 f = nI (fs r p f)) (hu : u < 2 ^ 30) :
    ∃ I', f_X9_layOut (nI r) (nI m) (nI p) (nI u) I = some I' ∧ MT 6 r (cN r p (dgw m (FT r p) u)) I I' := by
  have l := cfg_le h
  have ft := (tabT h).2.2.2
  obtain ⟨S, e1, b1⟩ := M_begin (t := 6) (r := r) (by decide) (by omega) I
  obtain ⟨S2, e2, b2⟩ := MC_19 h hm h5 hu (FT r p) FU S (Nat.le_refl _) (by unfold FU; omega) (b1.congr (fun c hc => cX_F h c hc))
  rw [Nat.sub_self, Nat.pow_zero, Nat.div_one] at e2
  have key : ∃ I', lp_X9_layOut_63 (nI r) (nI p) FU 1 S2 = some I' ∧ MT 6 r (cN r p (dgw m (FT r p) u)) I I' := by
    refine exLoop (fun n i S => lp_X9_layOut_63 (nI r) (nI p) n (nI i) S) r (fun i S => 1 ≤ i ∧ MT 6 r (cW r p (dgw m (FT r p) u) (25 * i + 6) i) I S) _ (fun n S hS => ?_) (fun n i S hi hS => ?_) (r - 1) 1 FU S2 (by omega) (by unfold FU; omega) ⟨Nat.le_refl _, b2.congr (fun c hc => cX_W c)⟩
    · refine ⟨S, ?_, hS.2.congr (fun c hc => cW_r c hc)⟩
      show lp_X9_layOut_63 (nI r) (nI p) (n + 1) (nI r) S = _
      rw [lp_X9_layOut_63.eq_2, if_pos (nI_le (Nat.le_refl _) (by omega))]
    · obtain ⟨i1, hS⟩ := hS
      have m := mat_lt h i1 hi
      obtain ⟨I2, e2, f2⟩ := M_step (t := 6) (i := i) (j := mat p i) (k := 0) (by decide) hS 1 (by omega)
      obtain ⟨I3, e3, f3⟩ := MC_88 h h4 i1 hi (f2.congr (fun c hc => cW_part h i1 hi c hc))
      refine ⟨I3, ?_, by omega, f3⟩
      show lp_X9_layOut_63 (nI r) (nI p) (n + 1) (nI i) S = lp_X9_layOut_63 (nI r) (nI p) n (nI (i + 1)) I3
      rw [lp_X9_layOut_63.eq_2, if_neg (le_nI (by omega) (by omega) (by omega)), bd_ok (mateM p (by omega) i (by omega)), bd_ok (show f_X9_lay 6 (nI i) (nI (mat p i)) 0 1 S = _ from e2), bd_ok e3, show nI i + 1 = nI (i + 1) from nI_1 i]
  obtain ⟨I', e3, b3⟩ := key
  refine ⟨I', ?_, b3⟩
  unfold f_X9_layOut
  rw [bd_ok (show f_X9_begin 6 (nI r) I = _ from e1), b1.1.1 14 (by decide) (by decide), h14, show nI (FT r p) - 1 = iI ((FT r p : Int) - 1) by rw [nI_iI, show (1 : Int32) = iI 1 from rfl, iI_sub], bd_ok e2, bd_ok e3]
end LM
