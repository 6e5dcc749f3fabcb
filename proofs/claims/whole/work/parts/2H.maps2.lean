/-! MAPS: the class's walk, the reference's, and the calls -/
noncomputable def cm (N : Nat → Nat) (r q : Nat) (x : Nat) : Nat := sN (fun z => bP (OKm N r q z)) x
theorem bP1 {P : Prop} (h : P) : bP P = 1 := by
  rcases bP_c P with ⟨_, e⟩ | ⟨e, _⟩
  · exact e
  · exact absurd h e
theorem bP0 {P : Prop} (h : ¬ P) : bP P = 0 := by
  rcases bP_c P with ⟨e, _⟩ | ⟨_, e⟩
  · exact absurd e h
  · exact e
theorem cm_le (N : Nat → Nat) (r q : Nat) : ∀ x, cm N r q x ≤ x := by
  intro x
  have := sN_le (fun z => bP (OKm N r q z)) 1 x (fun j _ => by show bP _ ≤ 1; rcases bP_c (OKm N r q j) with ⟨_, e⟩ | ⟨_, e⟩ <;> omega)
  unfold cm
  omega
theorem sN_same {f : Nat → Nat} {a : Nat} : ∀ d, (∀ z, a ≤ z → z < a + d → f z = 0) → sN f (a + d) = sN f a := by
  intro d
  induction d with
  | zero => intro _; rfl
  | succ d ih =>
    intro h
    rw [show a + (d + 1) = (a + d) + 1 by omega, sN, ih (fun z h1 h2 => h z h1 (by omega)), h (a + d) (by omega) (by omega)]
    omega
theorem pw_le {q r : Nat} (hq2 : q ≤ 13) (h1 : 1 ≤ r) (h5 : r ≤ 5) : q ^ (r - 1) ≤ 28561 := by
  have a : q ^ (r - 1) ≤ 13 ^ (r - 1) := Nat.pow_le_pow_left hq2 _
  have b : 13 ^ (r - 1) ≤ 13 ^ 4 := Nat.pow_le_pow_right (by decide) (by omega)
  have : (13 : Nat) ^ 4 = 28561 := by decide
  omega
theorem wstep {q r i x : Nat} (hi1 : 1 ≤ i) (hir : i < r) : x / q ^ (r - 1 - (i - 1)) = x / q ^ (r - 1 - i) / q := by
  rw [Nat.div_div_eq_div_mul, ← Nat.pow_succ]
  congr 2
  omega
theorem next_lt {q r i x : Nat} (hq : 2 ≤ q) (hi1 : 1 ≤ i) (hir : i < r) (hx : x < q ^ (r - 1)) (hd : x / q ^ (r - 1 - i) % q < q - 1) : (x / q ^ (r - 1 - i) + 1) * q ^ (r - 1 - i) < q ^ (r - 1) := by
  have hp : 0 < q ^ (r - 1 - i) := Nat.pow_pos (by omega)
  have hT : q ^ (r - 1) = q ^ i * q ^ (r - 1 - i) := by rw [← Nat.pow_add]; congr 1; omega
  have hy : x / q ^ (r - 1 - i) < q ^ i := by rw [Nat.div_lt_iff_lt_mul hp, ← hT]; exact hx
  have hqi : q ^ i = q * q ^ (i - 1) := by rw [← Nat.pow_succ']; congr 1; omega
  have hne : x / q ^ (r - 1 - i) + 1 ≠ q ^ i := fun e => by
    have a : (x / q ^ (r - 1 - i) + 1) % q = 0 := by rw [e, hqi, Nat.mul_mod_right]
    generalize x / q ^ (r - 1 - i) = y at hd a
    have := Nat.div_add_mod y q
    have h4 : y + 1 = q * (y / q) + (y % q + 1) := by omega
    rw [h4, Nat.mul_add_mod, Nat.mod_eq_of_lt (by omega)] at a
    omega
  rw [hT]
  exact Nat.mul_lt_mul_of_pos_right (by omega) hp
theorem B_next {I : SI} {r q x L : Nat} (hq : 2 ≤ q) (hq2 : q ≤ 13) (h1 : 1 ≤ r) (h5 : r ≤ 5) (hx : x < q ^ (r - 1)) (hL : L < r) (hu : ∀ i, i < r → I 28 i = nI (dgm q r x i)) :
    ∃ b I', f_X4_nextRow (nI r) (nI q) (nI L) I = some (b, I') ∧ Fr [28] I I' ∧ (((x / q ^ (r - 1 - L) + 1) * q ^ (r - 1 - L) < q ^ (r - 1) ∧ b = 1 ∧ ∀ i, i < r → I' 28 i = nI (dgm q r ((x / q ^ (r - 1 - L) + 1) * q ^ (r - 1 - L)) i)) ∨ ((x / q ^ (r - 1 - L) + 1) * q ^ (r - 1 - L) = q ^ (r - 1) ∧ b = 0)) := by
  have key : ∀ d n (Is : SI), 1 ≤ d → d ≤ r → d < n → Fr [28] I Is → (∀ j, j < d → Is 28 j = nI (dgm q r x j)) → (∀ j, d ≤ j → j < r → Is 28 j = nI 0) → (d - 1 ≤ L → (x / q ^ (r - 1 - L) + 1) * q ^ (r - 1 - L) = (x / q ^ (r - 1 - (d - 1)) + 1) * q ^ (r - 1 - (d - 1))) →
      (∃ I2, lp_X4_nextRow_5 (nI q) (nI L) n (nI d - 1) Is = some (1, 0, I2) ∧ Fr [28] I I2 ∧ (x / q ^ (r - 1 - L) + 1) * q ^ (r - 1 - L) = q ^ (r - 1))
      ∨ ∃ i I2, 1 ≤ i ∧ i < r ∧ lp_X4_nextRow_5 (nI q) (nI L) n (nI d - 1) Is = some (0, nI i, I2) ∧ Fr [28] I I2 ∧ I2 28 i = nI (dgm q r x i) ∧ (x / q ^ (r - 1 - L) + 1) * q ^ (r - 1 - L) < q ^ (r - 1) ∧ ∀ j, j < r → ups I2 28 i (I2 28 i + 1) 28 j = nI (dgm q r ((x / q ^ (r - 1 - L) + 1) * q ^ (r - 1 - L)) j) := by
    intro d
    induction d with
    | zero => intro n Is h; omega
    | succ d ih =>
      intro n Is _ hd hn hf ha hz hxx
      obtain ⟨m, rfl⟩ : ∃ m, n = m + 1 := ⟨n - 1, by omega⟩
      rw [show nI (d + 1) - 1 = nI d from nI_pred d, lp_X4_nextRow_5.eq_2]
      have em1 : nI d + (-1 : Int32) = nI d - 1 := by rw [Int32.sub_eq_add_neg]
      have hg : dgm q r x d < q := dgm_lt hq
      by_cases h0 : d = 0
      · subst h0
        left
        refine ⟨Is, if_pos (by decide), hf, ?_⟩
        rw [hxx (by omega), Nat.sub_zero, Nat.div_eq_of_lt hx, Nat.zero_add, Nat.one_mul]
      · rw [if_neg (show ¬ nI d < 1 from nI_nlt (b := 1) (by omega) (by omega))]
        rw [show d + 1 - 1 = d by omega] at hxx
        have cont : (d - 1 ≤ L → (x / q ^ (r - 1 - L) + 1) * q ^ (r - 1 - L) = (x / q ^ (r - 1 - (d - 1)) + 1) * q ^ (r - 1 - (d - 1))) → _ := ih m (ups Is 28 d 0) (by omega) (by omega) (by omega) (hf.ups (by simp)) (fun j hj => by rw [ups_at, if_neg (by omega)]; exact ha j (by omega)) (fun j hj hjr => by
          rw [ups_at]
          by_cases e : j = d
          · rw [if_pos e]; rfl
          · rw [if_neg e]; exact hz j (by omega) hjr)
        by_cases hLd : L < d
        · rw [if_pos (nI_lt hLd (by omega)), gd_in (show d < 5 by omega) (by decide), cl (by omega), em1]
          refine cont (fun h => ?_)
          rw [show L = d - 1 by omega]
        · rw [if_neg (nI_nlt (by omega) (by omega)), gd_in (show d < 5 by omega) (by decide), cl (by omega), ha d (by omega), show nI q - 1 = nI (q - 1) by rw [n1, pk_sub (by omega)]]
          have hdg : dgm q r x d = x / q ^ (r - 1 - d) % q := by unfold dgm; rw [if_neg h0]
          by_cases hmax : q - 1 ≤ dgm q r x d
          · rw [if_pos (nI_le hmax (by omega)), gd_inc (show d < 5 by omega) (by decide), em1]
            refine cont (fun _ => ?_)
            rw [hxx (by omega), wstep (by omega) (by omega)]
            have hw : q ^ (r - 1 - (d - 1)) = q * q ^ (r - 1 - d) := by rw [← Nat.pow_succ']; congr 1; omega
            rw [hw, ← Nat.mul_assoc]
            congr 1
            rw [hdg] at hmax
            have h4 := Nat.div_add_mod (x / q ^ (r - 1 - d)) q
            have h6 : x / q ^ (r - 1 - d) % q < q := Nat.mod_lt _ (by omega)
            rw [Nat.add_mul, Nat.one_mul, Nat.mul_comm (x / q ^ (r - 1 - d) / q) q]
            omega
          · have hlt : x / q ^ (r - 1 - d) % q < q - 1 := by rw [← hdg]; omega
            rw [if_neg (le_nI (by omega) (by omega) hmax)]
            right
            refine ⟨d, Is, by omega, by omega, rfl, hf, ha d (by omega), ?_, fun j hj => ?_⟩
            · rw [hxx (by omega)]; exact next_lt hq (by omega) (by omega) hx hlt
            · rw [hxx (by omega), digit_next hq (by omega) (by omega) hlt j hj, ups_at, ha d (by omega)]
              by_cases e : j = d
              · rw [if_pos e, if_neg (by omega), if_pos e]
                exact nI_1 _
              · rw [if_neg e]
                by_cases e2 : j < d
                · rw [if_pos e2]; exact ha j (by omega)
                · rw [if_neg e2, if_neg e]; exact hz j (by omega) hj
  have start := key r FU I h1 (Nat.le_refl _) (FUlt h5) Fr.rf hu (fun j h2 h3 => by omega) (fun h => by rw [show L = r - 1 by omega])
  rcases start with ⟨I2, e, f2, hT⟩ | ⟨i, I2, hi1, hir, e, f2, hv, hlt, hdig⟩
  · refine ⟨0, I2, ?_, f2, Or.inr ⟨hT, rfl⟩⟩
    unfold f_X4_nextRow
    rw [bd_ok e]
    rfl
  · refine ⟨1, ups I2 28 i (I2 28 i + 1), ?_, f2.ups (by simp), Or.inl ⟨hlt, rfl, hdig⟩⟩
    unfold f_X4_nextRow
    rw [bd_ok e]
    show gd (nI i < 0 ∨ 5 ≤ (nI i).toNatClampNeg) (gd (nI i < 0 ∨ 5 ≤ (nI i).toNatClampNeg) (some (1, ups I2 28 (nI i).toNatClampNeg (I2 28 (nI i).toNatClampNeg + 1)))) = _
    rw [gd_in (by omega) (by decide), gd_in (by omega) (by decide), cl (by omega)]
def Comm (r : Nat) (N : Nat → Nat) : Prop := ∀ i j k, i < r → j < r → k < r → nn N i j k = nn N j i k
theorem lw2_no {r : Nat} {N : Nat → Nat} (h : lw2 r N = none) : Comm r N := fun i j k hi hj hk => by
  have a := fsO_no r 0 h i (Nat.zero_le _) (by omega)
  have b := fsO_no r 0 a j (Nat.zero_le _) (by omega)
  have c := fsO_no r 0 b k (Nat.zero_le _) (by omega)
  exact Decidable.not_not.mp (tst_no c)
theorem right_uc {r : Nat} {N : Nat → Nat} (h : Right r N) : Unit1 r N ∧ Comm r N := by
  have h : (flt r N).1 = 0 := h
  cases q : lw1 r N with
  | some z =>
    unfold flt at h
    rw [q] at h
    exact absurd h (by simp)
  | none =>
    refine ⟨lw1_no q, ?_⟩
    cases q2 : lw2 r N with
    | some z =>
      unfold flt at h
      rw [q, q2] at h
      exact absurd h (by simp)
    | none => exact lw2_no q2
theorem OKm_of {r q x : Nat} {N : Nat → Nat} (hu : Unit1 r N) (hc : Comm r N) (h1 : 1 ≤ r) (h : ∀ i j, 1 ≤ j → j ≤ i → i < r → (q : Int) ∣ dmI N r (dgm q r x) i j) : OKm N r q x := by
  have hsym : ∀ i j, i < r → j < r → dmI N r (dgm q r x) i j = dmI N r (dgm q r x) j i := by
    intro i j hi hj
    unfold dmI
    rw [Int.mul_comm, sm_congr r (fun k hk => by rw [hc i j k hi hj hk])]
  have h0 : ∀ j, j < r → dmI N r (dgm q r x) 0 j = 0 := by
    intro j hj
    unfold dmI
    have e1 : sm (fun k => (nn N 0 j k : Int) * dgm q r x k) r = sm (fun k => (dl j k : Int) * dgm q r x k) r := sm_congr r (fun k hk => by rw [(hu j k hj hk).1])
    have e0 : dgm q r x 0 = 1 := by unfold dgm; rw [if_pos rfl]
    rw [e1, sm_dl (fun k => (dgm q r x k : Int)), if_pos hj, e0]
    omega
  intro i hi j hj
  by_cases hi0 : i = 0
  · rw [hi0, h0 j hj]; exact Int.dvd_zero _
  · by_cases hj0 : j = 0
    · rw [hj0, hsym i 0 hi (by omega), h0 i hi]; exact Int.dvd_zero _
    · by_cases hle : j ≤ i
      · exact h i j (by omega) hle hi
      · rw [hsym i j hi hj]; exact h j i (by omega) (by omega) hj
theorem skip_no {r q x y L i j : Nat} {N : Nat → Nat} (hLr : L < r) (hjL : j ≤ i) (hiL : i ≤ L) (hk : ∀ k, k < r → 0 < nn N i j k → k ≤ L) (hn : ¬ (q : Int) ∣ dmI N r (dgm q r x) i j) (hy : y / q ^ (r - 1 - L) = x / q ^ (r - 1 - L)) : ¬ OKm N r q y := by
  have hd : ∀ k, k ≤ L → dgm q r y k = dgm q r x k := by
    intro k hkL
    unfold dgm
    by_cases h0 : k = 0
    · rw [if_pos h0, if_pos h0]
    · rw [if_neg h0, if_neg h0]
      have hw : q ^ (r - 1 - k) = q ^ (r - 1 - L) * q ^ (L - k) := by rw [← Nat.pow_add]; congr 1; omega
      rw [hw, ← Nat.div_div_eq_div_mul, ← Nat.div_div_eq_div_mul, hy]
  intro h
  apply hn
  have e : dmI N r (dgm q r x) i j = dmI N r (dgm q r y) i j := by
    unfold dmI
    rw [hd i hiL, hd j (by omega)]
    congr 1
    refine sm_congr r (fun k hkr => ?_)
    by_cases hp : 0 < nn N i j k
    · rw [hd k (hk k hkr hp)]
    · rw [show nn N i j k = 0 by omega]
      simp
  rw [e]
  exact h i (by omega) j (by omega)
theorem B_walk {X r q : Nat} {N : Nat → Nat} (hX : X < 8) (ho : OKT r N) (hq : 2 ≤ q) (hq2 : q ≤ 13) (hu : Unit1 r N) (hc : Comm r N) (v3 : Int32) : ∀ d x c n (I : SI), x + d = q ^ (r - 1) → 1 ≤ d → c ≤ x → d < n → TB I X r N → (∀ i, i < r → I 28 i = nI (dgm q r x i)) → I 29 0 = nI (cm N r q x) →
    ∃ o, lp_X4_walk_34 X (nI q) v3 n 1 (nI c) I = some o ∧ Fr [28, 29] I o.2 ∧ ((o.1 = 0 ∧ ∃ x0, x ≤ x0 ∧ x0 < q ^ (r - 1) ∧ OKm N r q x0 ∧ nI (cm N r q x0) = v3 ∧ ∀ i, i < r → o.2 28 i = nI (dgm q r x0 i)) ∨ (o.1 = 1 ∧ o.2 29 0 = nI (cm N r q (q ^ (r - 1))) ∧ ∀ x0, x ≤ x0 → x0 < q ^ (r - 1) → OKm N r q x0 → nI (cm N r q x0) ≠ v3)) := by
  obtain ⟨h1, h5, h9⟩ := id ho
  have hT := pw_le (q := q) hq2 h1 h5
  intro d
  induction d using Nat.strongRecOn with
  | ind d ih =>
    intro x c n I hxd hd1 hcx hn hB hI hP
    obtain ⟨m, rfl⟩ : ∃ m, n = m + 1 := ⟨n - 1, by omega⟩
    have hx : x < q ^ (r - 1) := by omega
    have hcm := cm_le N r q x
    have hu12 : ∀ i, i < r → I 28 i = nI (dgm q r x i) ∧ dgm q r x i ≤ 12 := fun i hi => ⟨hI i hi, by have := dgm_lt (q := q) (r := r) (x := x) (i := i) hq; omega⟩
    -- going on behind a step to x'
    have go : ∀ (L : Nat) (I1 : SI), L < r → Fr [29] I I1 → (∀ i, i < r → I1 28 i = nI (dgm q r x i)) → I1 29 0 = nI (cm N r q ((x / q ^ (r - 1 - L) + 1) * q ^ (r - 1 - L))) → (∀ x0, x ≤ x0 → x0 < (x / q ^ (r - 1 - L) + 1) * q ^ (r - 1 - L) → OKm N r q x0 → nI (cm N r q x0) ≠ v3) →
        ∃ o, (bd (f_X4_nextRow (nI r) (nI q) (nI L) I1) fun (z : Int32 × SI) => lp_X4_walk_34 X (nI q) v3 m z.1 (nI c + 1) z.2) = some o ∧ Fr [28, 29] I o.2 ∧ ((o.1 = 0 ∧ ∃ x0, x ≤ x0 ∧ x0 < q ^ (r - 1) ∧ OKm N r q x0 ∧ nI (cm N r q x0) = v3 ∧ ∀ i, i < r → o.2 28 i = nI (dgm q r x0 i)) ∨ (o.1 = 1 ∧ o.2 29 0 = nI (cm N r q (q ^ (r - 1))) ∧ ∀ x0, x ≤ x0 → x0 < q ^ (r - 1) → OKm N r q x0 → nI (cm N r q x0) ≠ v3)) := by
      intro L I1 hL hf hI1 hP1 hno
      have hpos : 0 < q ^ (r - 1 - L) := Nat.pow_pos (by omega)
      have hgt : x < (x / q ^ (r - 1 - L) + 1) * q ^ (r - 1 - L) := by
        have := Nat.div_add_mod x (q ^ (r - 1 - L))
        have h2 := Nat.mod_lt x hpos
        rw [Nat.add_mul, Nat.one_mul, Nat.mul_comm]
        omega
      obtain ⟨b, I2, e, f2, hcase⟩ := B_next hq hq2 h1 h5 hx hL hI1
      have f3 : Fr [28, 29] I I2 := (hf.mono (by simp)).trans (f2.mono (by simp))
      have hB2 := hB.fr f3 (by simp; omega) (by simp; omega)
      have hP2 : I2 29 0 = I1 29 0 := by rw [f2 29 (by decide)]
      rw [bd_ok e]
      rcases hcase with ⟨hlt, rfl, hdig⟩ | ⟨heq, rfl⟩
      · obtain ⟨o, eo, fo, co⟩ := ih (q ^ (r - 1) - (x / q ^ (r - 1 - L) + 1) * q ^ (r - 1 - L)) (by omega) ((x / q ^ (r - 1 - L) + 1) * q ^ (r - 1 - L)) (c + 1) m I2 (by omega) (by omega) (by omega) (by omega) hB2 hdig (hP2.trans hP1)
        refine ⟨o, by rw [show nI c + 1 = nI (c + 1) from nI_1 c]; exact eo, f3.trans fo, ?_⟩
        rcases co with ⟨a, x0, b1, b2, b3, b4, b5⟩ | ⟨a, b1, b2⟩
        · exact Or.inl ⟨a, x0, by omega, b2, b3, b4, b5⟩
        · refine Or.inr ⟨a, b1, fun x0 y1 y2 y3 => ?_⟩
          by_cases w : x0 < (x / q ^ (r - 1 - L) + 1) * q ^ (r - 1 - L)
          · exact hno x0 y1 w y3
          · exact b2 x0 (by omega) y2 y3
      · obtain ⟨m2, rfl⟩ : ∃ y, m = y + 1 := ⟨m - 1, by omega⟩
        refine ⟨(1, I2), ?_, f3, Or.inr ⟨rfl, by show I2 29 0 = _; rw [hP2, hP1, heq], fun x0 y1 y2 y3 => hno x0 y1 (by omega) y3⟩⟩
        show lp_X4_walk_34 X (nI q) v3 (m2 + 1) 0 (nI c + 1) I2 = _
        rw [lp_X4_walk_34.eq_2]
        by_cases w : (28561 : Int32) ≤ nI c + 1
        · rw [if_pos w]
        · rw [if_neg w, if_pos rfl]
    rw [lp_X4_walk_34.eq_2, if_neg (show ¬ (28561 : Int32) ≤ nI c from le_nI (a := 28561) (by decide) (by omega) (by omega)), if_neg (by decide)]
    rcases B_lob hB ho hq hq2 hu12 with ⟨e, hall⟩ | ⟨L, i, j, e, hL1, hLr, hj1, hji, hiL, hnd, hkL⟩
    · have hok : OKm N r q x := OKm_of hu hc h1 hall
      have hcs : cm N r q (x + 1) = cm N r q x + 1 := by unfold cm; rw [sN, bP1 hok]
      rw [bd_ok e, if_pos rfl, hP]
      by_cases hv : nI (cm N r q x) = v3
      · rw [if_pos hv]
        exact ⟨(0, I), rfl, Fr.rf, Or.inl ⟨rfl, x, Nat.le_refl _, hx, hok, hv, hI⟩⟩
      · rw [if_neg hv, sets_id (show 8 + X ≠ 29 by omega), hB.1, show nI r - 1 = nI (r - 1) by rw [n1, pk_sub (by omega)], show nI (cm N r q x) + 1 = nI (cm N r q x + 1) from nI_1 _]
        have hone : (x / q ^ (r - 1 - (r - 1)) + 1) * q ^ (r - 1 - (r - 1)) = x + 1 := by rw [Nat.sub_self, Nat.pow_zero, Nat.div_one, Nat.mul_one]
        exact go (r - 1) (sets I 29 (nI (cm N r q x + 1))) (by omega) (Fr.rf.sets (by simp)) (fun i hi => by rw [sets_id (by decide)]; exact hI i hi) (by rw [sets_at, hone, hcs]) (fun x0 y1 y2 y3 => by
          rw [hone] at y2
          rw [show x0 = x by omega]
          exact hv)
    · have hno : ∀ z, x ≤ z → z < (x / q ^ (r - 1 - L) + 1) * q ^ (r - 1 - L) → ¬ OKm N r q z := fun z hz1 hz2 => by
        refine skip_no hLr hji hiL hkL hnd ?_
        have hpos : 0 < q ^ (r - 1 - L) := Nat.pow_pos (by omega)
        refine Nat.div_eq_of_lt_le ?_ ?_
        · have := Nat.div_mul_le_self x (q ^ (r - 1 - L))
          omega
        · exact hz2
      have hne1 : ¬ nI L = (-1 : Int32) := nI_nm1 (by omega)
      have hpos : 0 < q ^ (r - 1 - L) := Nat.pow_pos (by omega)
      have hgt : x < (x / q ^ (r - 1 - L) + 1) * q ^ (r - 1 - L) := by
        have := Nat.div_add_mod x (q ^ (r - 1 - L))
        have h2 := Nat.mod_lt x hpos
        rw [Nat.add_mul, Nat.one_mul, Nat.mul_comm]
        omega
      have hcs : cm N r q ((x / q ^ (r - 1 - L) + 1) * q ^ (r - 1 - L)) = cm N r q x := by
        unfold cm
        have := sN_same (f := fun z => bP (OKm N r q z)) (a := x) ((x / q ^ (r - 1 - L) + 1) * q ^ (r - 1 - L) - x) (fun z hz1 hz2 => bP0 (hno z hz1 (by omega)))
        rw [show x + ((x / q ^ (r - 1 - L) + 1) * q ^ (r - 1 - L) - x) = (x / q ^ (r - 1 - L) + 1) * q ^ (r - 1 - L) by omega] at this
        exact this
      rw [bd_ok e, if_neg hne1, hB.1]
      exact go L I hLr Fr.rf hI (by rw [hP, hcs]) (fun x0 y1 y2 y3 => absurd y3 (hno x0 y1 y2))
/-- the class's whole walk -/
theorem B_walk0 {X r q : Nat} {N : Nat → Nat} {I : SI} (hX : X < 8) (hB : TB I X r N) (ho : OKT r N) (hq : 2 ≤ q) (hq2 : q ≤ 13) (hR : Right r N) (v3 : Int32) : ∃ b I', f_X4_walk X (nI q) v3 I = some (b, I') ∧ Fr [28, 29] I I' ∧ ((b = 1 ∧ ∃ x0, x0 < q ^ (r - 1) ∧ OKm N r q x0 ∧ nI (cm N r q x0) = v3 ∧ ∀ i, i < r → I' 28 i = nI (dgm q r x0 i)) ∨ (b = 0 ∧ I' 29 0 = nI (cm N r q (q ^ (r - 1))) ∧ ∀ x0, x0 < q ^ (r - 1) → OKm N r q x0 → nI (cm N r q x0) ≠ v3)) := by
  obtain ⟨h1, h5, h9⟩ := id ho
  obtain ⟨hu, hc⟩ := right_uc hR
  have hT := pw_le (q := q) hq2 h1 h5
  have hpos : 0 < q ^ (r - 1) := Nat.pow_pos (by omega)
  have f0 : Fr [28, 29] I (ups (fillS (sets I 29 0) 28 0 5) 28 0 1) := ((Fr.rf.sets (by simp)).trans ((fillS_fr _ _ _ _).mono (by simp))).ups (by simp)
  have hB0 := hB.fr f0 (by simp; omega) (by simp; omega)
  obtain ⟨o, e, f1, cc⟩ := B_walk hX ho hq hq2 hu hc v3 (q ^ (r - 1)) 0 0 FU _ (Nat.zero_add _) hpos (Nat.le_refl _) (by unfold FU; omega) hB0 (fun i hi => by
    rw [ups_at]
    by_cases z : i = 0
    · rw [if_pos z, z]
      show (1 : Int32) = nI (dgm q r 0 0)
      unfold dgm
      rw [if_pos rfl]; rfl
    · rw [if_neg z, fillS_at, if_pos (by omega)]
      unfold dgm
      rw [if_neg z, Nat.zero_div, Nat.zero_mod]; rfl) (by rw [ups_id (by decide), fillS_fr _ 28 _ 5 29 (by decide), sets_at]; rfl)
  obtain ⟨t, I'⟩ := o
  refine ⟨if t = 0 then 1 else 0, I', ?_, f0.trans f1, ?_⟩
  · unfold f_X4_walk
    rw [bd_ok (e_fill (sets I 29 0) 28 5 0 (by decide)), if_neg (nI_nle (by omega) (by omega)), bd_ok (show lp_X4_walk_34 X (nI q) v3 FU 1 0 (ups (fillS (sets I 29 0) 28 0 5) 28 (0 : Int32).toNatClampNeg 1) = some (t, I') from e)]
    show (if t = 0 then some (1, I') else some (0, I')) = _
    by_cases w : t = 0
    · rw [if_pos w, if_pos w]
    · rw [if_neg w, if_neg w]
  · rcases cc with ⟨a, x0, _, b2, b3, b4, b5⟩ | ⟨a, b1, b2⟩
    · have a : t = 0 := a
      exact Or.inl ⟨if_pos a, x0, b2, b3, b4, b5⟩
    · have a : t = 1 := a
      exact Or.inr ⟨by rw [a]; rfl, b1, fun x0 y1 y2 => b2 x0 (Nat.zero_le _) y1 y2⟩
