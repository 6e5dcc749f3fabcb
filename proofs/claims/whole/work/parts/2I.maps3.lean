/-! MAPS: the reference's side, and the calls -/
theorem M_isMap_in {I : SI} {t r q : Nat} {N : Nat → Nat} (h : TM I t r N) (ht : t < 7) (ho : OKT r N) {u : Nat → Nat} (hu : ∀ i, i < r → I 10 i = nI (u i) ∧ u i ≤ 12) {i j : Nat} (hi : i < r) (hj : j < r) : lp_X9_isMap_45 (nI t) (nI q) (nI i) (nI j) I FU (nI (u i) * nI (u j)) 0 = some (iI (dmI N r u i j)) := by
  obtain ⟨h1, h5, h9⟩ := id ho
  have e : lp_X9_isMap_45 (nI t) (nI q) (nI i) (nI j) I FU (iI ((u i : Int) * u j - sm (fun k => (nn N i j k : Int) * u k) 0)) (nI 0) = some (iI (dmI N r u i j)) := by
    refine upLoop (fun m k => lp_X9_isMap_45 (nI t) (nI q) (nI i) (nI j) I m (iI ((u i : Int) * u j - sm (fun k => (nn N i j k : Int) * u k) k)) (nI k)) r _ (fun m => ?_) (fun m k hk => ?_) r 0 FU (Nat.zero_add r) (FUlt h5)
    · show lp_X9_isMap_45 (nI t) (nI q) (nI i) (nI j) I (m + 1) _ (nI r) = _
      rw [lp_X9_isMap_45.eq_2, gd_in ht (by decide), cl (by omega), h.1, if_pos (nI_le (Nat.le_refl _) (by omega))]
      rfl
    · have e := M_num h ht (i := i) (j := j) (k := k) (by omega) (by omega) (by omega)
      show lp_X9_isMap_45 (nI t) (nI q) (nI i) (nI j) I (m + 1) (iI _) (nI k) = lp_X9_isMap_45 (nI t) (nI q) (nI i) (nI j) I m (iI _) (nI (k + 1))
      rw [lp_X9_isMap_45.eq_2, gd_in ht (by decide), cl (show t < 2 ^ 31 by omega), h.1, if_neg (le_nI (by omega) (by omega) (by omega)), bd_ok e, gd_in (show k < 5 by omega) (by decide), cl (by omega), (hu k hk).1, lpsum (r := r), show nI k + 1 = nI (k + 1) from nI_1 k]
  have e0 : iI ((u i : Int) * u j - sm (fun k => (nn N i j k : Int) * u k) 0) = nI (u i) * nI (u j) := by
    rw [nI_iI (u i), nI_iI (u j), iI_mul]
    show iI ((u i : Int) * u j - 0) = _
    rw [Int.sub_zero]
  rw [e0] at e
  exact e
theorem M_isMap {I : SI} {t r q : Nat} {N : Nat → Nat} (h : TM I t r N) (ht : t < 7) (ho : OKT r N) (hq : 2 ≤ q) (hq2 : q ≤ 13) {u : Nat → Nat} (hu : ∀ i, i < r → I 10 i = nI (u i) ∧ u i ≤ 12) :
    f_X9_isMap (nI t) (nI q) I = some (nI (bP (∀ i, i < r → ∀ j, j < r → (q : Int) ∣ dmI N r u i j))) := by
  obtain ⟨h1, h5, h9⟩ := id ho
  have e1 : ∀ i, i < r → lp_X9_isMap_15 (nI t) (nI q) (nI i) I FU 0 = some (match fsO (fun j => tst (¬ (q : Int) ∣ dmI N r u i j)) r 0 with
      | none => 1
      | some _ => 0) := by
    intro i hi
    refine fsLoop (fun n j => lp_X9_isMap_15 (nI t) (nI q) (nI i) I n (nI j)) r (fun j => tst (¬ (q : Int) ∣ dmI N r u i j)) (fun o => match o with
      | none => 1
      | some _ => 0) (fun n => ?_) (fun n j hj => ?_) r 0 FU (Nat.zero_add r) (FUlt h5)
    · show lp_X9_isMap_15 (nI t) (nI q) (nI i) I (n + 1) (nI r) = _
      rw [lp_X9_isMap_15.eq_2, gd_in ht (by decide), cl (by omega), h.1, if_pos (nI_le (Nat.le_refl _) (by omega))]
    · have a := M_isMap_in (q := q) h ht ho hu hi hj
      have b := dmI_le ho (fun z hz => (hu z hz).2) hi hj
      have c := rem_iff (a := dmI N r u i j) (by omega) (by omega) hq hq2
      have e2 : lp_X9_isMap_15 (nI t) (nI q) (nI i) I (n + 1) (nI j) = if ¬ (q : Int) ∣ dmI N r u i j then some 0 else lp_X9_isMap_15 (nI t) (nI q) (nI i) I n (nI (j + 1)) := by
        rw [lp_X9_isMap_15.eq_2, gd_in ht (by decide), cl (show t < 2 ^ 31 by omega), h.1, if_neg (le_nI (by omega) (by omega) (by omega)), gd_in (show i < 5 by omega) (by decide), gd_in (show j < 5 by omega) (by decide), cl (show i < 2 ^ 31 by omega), cl (show j < 2 ^ 31 by omega), (hu i hi).1, (hu j hj).1, bd_ok a, gd_nz (by omega) (by omega), show nI j + 1 = nI (j + 1) from nI_1 j]
        by_cases w : (q : Int) ∣ dmI N r u i j
        · rw [if_pos (c.mpr w), if_neg (fun y => y w)]
        · rw [if_neg (fun y => w (c.mp y)), if_pos w]
      by_cases w : ¬ (q : Int) ∣ dmI N r u i j
      · exact Or.inl ⟨(), tst_t w, by show lp_X9_isMap_15 (nI t) (nI q) (nI i) I (n + 1) (nI j) = _; rw [e2, if_pos w]⟩
      · exact Or.inr ⟨tst_f w, by show lp_X9_isMap_15 (nI t) (nI q) (nI i) I (n + 1) (nI j) = _; rw [e2, if_neg w]⟩
  have e3 : lp_X9_isMap_2 (nI t) (nI q) I FU 0 = some (match fsO (fun i => fsO (fun j => tst (¬ (q : Int) ∣ dmI N r u i j)) r 0) r 0 with
      | none => 1
      | some _ => 0) := by
    refine fsLoop (fun n i => lp_X9_isMap_2 (nI t) (nI q) I n (nI i)) r (fun i => fsO (fun j => tst (¬ (q : Int) ∣ dmI N r u i j)) r 0) (fun o => match o with
      | none => 1
      | some _ => 0) (fun n => ?_) (fun n i hi => ?_) r 0 FU (Nat.zero_add r) (FUlt h5)
    · show lp_X9_isMap_2 (nI t) (nI q) I (n + 1) (nI r) = _
      rw [lp_X9_isMap_2.eq_2, gd_in ht (by decide), cl (by omega), h.1, if_pos (nI_le (Nat.le_refl _) (by omega))]
    · have a := e1 i hi
      cases w : fsO (fun j => tst (¬ (q : Int) ∣ dmI N r u i j)) r 0 with
      | some z =>
        rw [w] at a
        refine Or.inl ⟨z, rfl, ?_⟩
        show lp_X9_isMap_2 (nI t) (nI q) I (n + 1) (nI i) = _
        rw [lp_X9_isMap_2.eq_2, gd_in ht (by decide), cl (by omega), h.1, if_neg (le_nI (by omega) (by omega) (by omega)), bd_ok a]
        rfl
      | none =>
        rw [w] at a
        refine Or.inr ⟨rfl, ?_⟩
        show lp_X9_isMap_2 (nI t) (nI q) I (n + 1) (nI i) = lp_X9_isMap_2 (nI t) (nI q) I n (nI (i + 1))
        rw [lp_X9_isMap_2.eq_2, gd_in ht (by decide), cl (by omega), h.1, if_neg (le_nI (by omega) (by omega) (by omega)), bd_ok a, show nI i + 1 = nI (i + 1) from nI_1 i]
        rfl
  unfold f_X9_isMap
  rw [bd_ok e3]
  cases w : fsO (fun i => fsO (fun j => tst (¬ (q : Int) ∣ dmI N r u i j)) r 0) r 0 with
  | none =>
    rw [bP1 (fun i hi j hj => ?_)]
    · rfl
    · have a := fsO_no r 0 w i (by omega) (by omega)
      exact Decidable.not_not.mp (tst_no (fsO_no r 0 a j (by omega) (by omega)))
  | some z =>
    obtain ⟨i, j, uu⟩ := z
    obtain ⟨a1, a2⟩ := fsO_lt w
    obtain ⟨b1, b2⟩ := fsO_lt a2
    have a1 : i < r := a1
    have b1 : j < r := b1
    have b2 : tst (¬ (q : Int) ∣ dmI N r u i j) = some uu := b2
    rw [bP0 (fun y => ?_)]
    · rfl
    · rw [tst_f (fun z => z (y i a1 j b1))] at b2
      cases b2
theorem M_digits {t r q : Nat} (x : Nat) (hq : 2 ≤ q) (hq2 : q ≤ 13) (h5 : r ≤ 5) (hx : x < 100000) (v1 v3 v4 v5 v6 : Int32) : ∀ i n (I : SI), i < r → i < n → I 10 0 = 1 → (∀ j, i < j → j < r → I 10 j = nI (dgm q r x j)) →
    ∃ I', lp_X9_findMaps_71 v1 (nI q) v3 v4 v5 v6 n (nI (x / q ^ (r - 1 - i))) (nI i) I = some I' ∧ Fr [10] I I' ∧ ∀ j, j < r → I' 10 j = nI (dgm q r x j) := by
  intro i
  induction i with
  | zero =>
    intro n I hi hn h0 hj
    obtain ⟨m, rfl⟩ : ∃ m, n = m + 1 := ⟨n - 1, by omega⟩
    refine ⟨I, ?_, Fr.rf, fun j hjr => ?_⟩
    · rw [lp_X9_findMaps_71.eq_2, if_pos (show nI 0 ≤ 0 by decide)]
    · by_cases z : j = 0
      · rw [z, h0]; unfold dgm; rw [if_pos rfl]; rfl
      · exact hj j (by omega) hjr
  | succ i ih =>
    intro n I hi hn h0 hj
    obtain ⟨m, rfl⟩ : ∃ m, n = m + 1 := ⟨n - 1, by omega⟩
    have hb : x / q ^ (r - 1 - (i + 1)) < 2 ^ 31 := by
      have := Nat.div_le_self x (q ^ (r - 1 - (i + 1)))
      omega
    have hd : x / q ^ (r - 1 - (i + 1)) / q = x / q ^ (r - 1 - i) := by
      have := wstep (q := q) (r := r) (x := x) (i := i + 1) (by omega) hi
      rw [← this]; rfl
    obtain ⟨I', e, f, g⟩ := ih m (ups I 10 (i + 1) (nI (x / q ^ (r - 1 - (i + 1)) % q))) (by omega) (by omega) (by rw [ups_at, if_neg (by omega)]; exact h0) (fun j h1 h2 => by
      rw [ups_at]
      by_cases z : j = i + 1
      · rw [if_pos z, z]; unfold dgm; rw [if_neg (by omega)]
      · rw [if_neg z]; exact hj j (by omega) h2)
    refine ⟨I', ?_, (Fr.rf.ups (by simp)).trans f, g⟩
    rw [lp_X9_findMaps_71.eq_2, if_neg (show ¬ nI (i + 1) ≤ 0 from nI_nle (by omega) (by omega)), gd_nz (by omega) (by omega), gd_in (show i + 1 < 5 by omega) (by decide), gd_nz (by omega) (by omega), cl (by omega), pk_rem hb (by omega) (by omega), pk_div hb (by omega) (by omega), pk_m1, hd]
    exact e
theorem M_pow {I : SI} {t r q : Nat} {N : Nat → Nat} (h : TM I t r N) (ht : t < 7) (h1 : 1 ≤ r) (h5 : r ≤ 5) (hq2 : q ≤ 13) (v3 : Int32) : lp_X9_findMaps_6 (nI t) (nI q) v3 I FU 1 1 = some (nI (q ^ (r - 1))) := by
  have e : lp_X9_findMaps_6 (nI t) (nI q) v3 I FU (nI (q ^ (1 - 1))) (nI 1) = some (nI (q ^ (r - 1))) := by
    have key : ∀ d j n, j + d = r → 1 ≤ j → d < n → lp_X9_findMaps_6 (nI t) (nI q) v3 I n (nI (q ^ (j - 1))) (nI j) = some (nI (q ^ (r - 1))) := by
      intro d
      induction d with
      | zero =>
        intro j n hj hj1 hn
        obtain ⟨m, rfl⟩ : ∃ m, n = m + 1 := ⟨n - 1, by omega⟩
        rw [lp_X9_findMaps_6.eq_2, gd_in ht (by decide), cl (by omega), h.1, if_pos (nI_le (by omega) (by omega)), show j = r by omega]
      | succ d ih =>
        intro j n hj hj1 hn
        obtain ⟨m, rfl⟩ : ∃ m, n = m + 1 := ⟨n - 1, by omega⟩
        rw [lp_X9_findMaps_6.eq_2, gd_in ht (by decide), cl (by omega), h.1, if_neg (le_nI (by omega) (by omega) (by omega)), pk_mul, ← Nat.pow_succ, show nI j + 1 = nI (j + 1) from nI_1 j, show (j - 1).succ = j + 1 - 1 by omega]
        exact ih (j + 1) m (by omega) (by omega) (by omega)
    exact key (r - 1) 1 FU (by omega) (Nat.le_refl _) (by unfold FU; omega)
  exact e
theorem M_walk {t r q : Nat} {N : Nat → Nat} (ht : t < 7) (ho : OKT r N) (hq : 2 ≤ q) (hq2 : q ≤ 13) (v3 : Int32) : ∀ d x n (I : SI), x + d = q ^ (r - 1) → d < n → TM I t r N →
    ((nI (cm N r q x) ≠ v3 + 1 ∧ ∀ x0, x0 < x → OKm N r q x0 → nI (cm N r q x0 + 1) ≠ v3 + 1) ∨ (nI (cm N r q x) = v3 + 1 ∧ ∃ x0, x0 < q ^ (r - 1) ∧ OKm N r q x0 ∧ nI (cm N r q x0 + 1) = v3 + 1 ∧ ∀ i, i < r → I 10 i = nI (dgm q r x0 i))) →
    ∃ v I', lp_X9_findMaps_35 (nI t) (nI q) v3 (nI (q ^ (r - 1))) n (nI (cm N r q x)) (nI x) I = some (v, I') ∧ Fr [10] I I' ∧ ((v = v3 + 1 ∧ ∃ x0, x0 < q ^ (r - 1) ∧ OKm N r q x0 ∧ nI (cm N r q x0 + 1) = v3 + 1 ∧ ∀ i, i < r → I' 10 i = nI (dgm q r x0 i)) ∨ (v ≠ v3 + 1 ∧ v = nI (cm N r q (q ^ (r - 1))) ∧ ∀ x0, x0 < q ^ (r - 1) → OKm N r q x0 → nI (cm N r q x0 + 1) ≠ v3 + 1)) := by
  obtain ⟨h1, h5, h9⟩ := id ho
  have hT := pw_le (q := q) hq2 h1 h5
  intro d
  induction d with
  | zero =>
    intro x n I hxd hn hM hinv
    obtain ⟨m, rfl⟩ : ∃ m, n = m + 1 := ⟨n - 1, by omega⟩
    have hx : x = q ^ (r - 1) := by omega
    refine ⟨nI (cm N r q x), I, ?_, Fr.rf, ?_⟩
    · rw [lp_X9_findMaps_35.eq_2, if_pos (nI_le (by omega) (by omega))]
    · rcases hinv with ⟨a, b⟩ | ⟨a, b⟩
      · exact Or.inr ⟨a, by rw [hx], fun x0 h => b x0 (by omega)⟩
      · exact Or.inl ⟨a, b⟩
  | succ d ih =>
    intro x n I hxd hn hM hinv
    obtain ⟨m, rfl⟩ : ∃ m, n = m + 1 := ⟨n - 1, by omega⟩
    rw [lp_X9_findMaps_35.eq_2, if_neg (le_nI (by omega) (by omega) (by omega))]
    rcases hinv with ⟨a, b⟩ | ⟨a, b⟩
    · rw [if_neg a, gd_in ht (by decide), cl (show t < 2 ^ 31 by omega), ups_id (show (0 : Nat) ≠ 10 by decide), hM.1, show nI r - 1 = nI (r - 1) by rw [n1, pk_sub (by omega)]]
      have f0 : Fr [10] I (ups I 10 0 1) := Fr.rf.ups (by simp)
      obtain ⟨I1, e1, f1, g1⟩ := M_digits (r := r) (q := q) (t := t) x hq hq2 h5 (by omega) (nI t) v3 (nI (q ^ (r - 1))) (nI (cm N r q x)) (nI x) (r - 1) FU (ups I 10 0 1) (by omega) (by unfold FU; omega) (by rw [ups_at, if_pos rfl]) (fun j h2 h3 => by omega)
      rw [Nat.sub_self, Nat.pow_zero, Nat.div_one] at e1
      have f2 := f0.trans f1
      have hM1 := hM.fr f2 (by decide) (by decide)
      have e2 := M_isMap hM1 ht ho hq hq2 (u := dgm q r x) (fun i hi => ⟨g1 i hi, by have := dgm_lt (q := q) (r := r) (x := x) (i := i) hq; omega⟩)
      have e2 : f_X9_isMap (nI t) (nI q) I1 = some (nI (bP (OKm N r q x))) := e2
      rw [bd_ok (show lp_X9_findMaps_71 (nI t) (nI q) v3 (nI (q ^ (r - 1))) (nI (cm N r q x)) (nI x) FU (nI x) (nI (r - 1)) (ups I 10 (0 : Int32).toNatClampNeg 1) = some I1 from e1), bd_ok e2, show nI x + 1 = nI (x + 1) from nI_1 x, show nI (cm N r q x) + 1 = nI (cm N r q x + 1) from nI_1 _]
      by_cases hok : OKm N r q x
      · have hcs : cm N r q (x + 1) = cm N r q x + 1 := by unfold cm; rw [sN, bP1 hok]
        rw [bP1 hok, if_neg (by decide), ← hcs]
        obtain ⟨v, I', e, f, g⟩ := ih (x + 1) m I1 (by omega) (by omega) hM1 (by
          by_cases w : nI (cm N r q (x + 1)) = v3 + 1
          · exact Or.inr ⟨w, x, by omega, hok, by rw [← hcs]; exact w, g1⟩
          · refine Or.inl ⟨w, fun x0 h2 h3 => ?_⟩
            by_cases z : x0 = x
            · rw [z, ← hcs]; exact w
            · exact b x0 (by omega) h3)
        exact ⟨v, I', e, f2.trans f, g⟩
      · have hcs : cm N r q (x + 1) = cm N r q x := by unfold cm; rw [sN, bP0 hok]; rfl
        rw [bP0 hok, if_pos (show nI 0 = 0 from rfl), show nI (cm N r q x) + 0 = nI (cm N r q (x + 1)) by rw [hcs]; exact nI_add _ 0]
        obtain ⟨v, I', e, f, g⟩ := ih (x + 1) m I1 (by omega) (by omega) hM1 (by
          refine Or.inl ⟨by rw [hcs]; exact a, fun x0 h2 h3 => ?_⟩
          by_cases z : x0 = x
          · rw [z] at h3; exact absurd h3 hok
          · exact b x0 (by omega) h3)
        exact ⟨v, I', e, f2.trans f, g⟩
    · rw [if_pos a]
      exact ⟨nI (cm N r q x), I, rfl, Fr.rf, Or.inl ⟨a, b⟩⟩
theorem i1_cancel {a b : Int32} (h : a + 1 = b + 1) : a = b := by
  have e : ∀ c : Int32, c + 1 - 1 = c := fun c => by simp
  rw [← e a, h, e b]
theorem M_find {I : SI} {t r q : Nat} {N : Nat → Nat} (hM : TM I t r N) (ht : t < 7) (ho : OKT r N) (hq : 2 ≤ q) (hq2 : q ≤ 13) (v3 : Int32) (h3 : v3 ≠ -1) :
    ∃ v I', f_X9_findMaps (nI t) (nI q) v3 I = some (v, I') ∧ Fr [10] I I' ∧ ((v = v3 + 1 ∧ ∃ x0, x0 < q ^ (r - 1) ∧ OKm N r q x0 ∧ nI (cm N r q x0) = v3 ∧ ∀ i, i < r → I' 10 i = nI (dgm q r x0 i)) ∨ (v ≠ v3 + 1 ∧ v = nI (cm N r q (q ^ (r - 1))) ∧ ∀ x0, x0 < q ^ (r - 1) → OKm N r q x0 → nI (cm N r q x0) ≠ v3)) := by
  obtain ⟨h1, h5, h9⟩ := id ho
  have hT := pw_le (q := q) hq2 h1 h5
  obtain ⟨v, I', e, f, g⟩ := M_walk ht ho hq hq2 v3 (q ^ (r - 1)) 0 FU I (Nat.zero_add _) (by unfold FU; omega) hM (Or.inl ⟨fun y => by
    have y : (-1 : Int32) + 1 = v3 + 1 := by rw [← y]; unfold cm; rw [sN]; decide
    exact h3 (i1_cancel y).symm, fun x0 h => by omega⟩)
  refine ⟨v, I', ?_, f, ?_⟩
  · unfold f_X9_findMaps
    rw [bd_ok (M_pow hM ht h1 h5 hq2 v3), bd_ok (show lp_X9_findMaps_35 (nI t) (nI q) v3 (nI (q ^ (r - 1))) FU 0 0 I = some (v, I') from e)]
  · rcases g with ⟨a, x0, b1, b2, b3, b4⟩ | ⟨a, b1, b2⟩
    · exact Or.inl ⟨a, x0, b1, b2, i1_cancel ((nI_1 _).trans b3), b4⟩
    · refine Or.inr ⟨a, b1, fun x0 y1 y2 y3 => b2 x0 y1 y2 ?_⟩
      rw [← y3]; exact (nI_1 _).symm
theorem cm_inj {N : Nat → Nat} {r q a b : Nat} (ha : OKm N r q a) (hb : OKm N r q b) (h : cm N r q a = cm N r q b) : a = b := by
  have lt : ∀ x y, OKm N r q x → x < y → cm N r q x < cm N r q y := fun x y hx hxy => by
    have e : cm N r q (x + 1) = cm N r q x + 1 := by unfold cm; rw [sN, bP1 hx]
    have m := sN_mono (fun z => bP (OKm N r q z)) (show x + 1 ≤ y from hxy)
    have m : cm N r q (x + 1) ≤ cm N r q y := m
    omega
  rcases Nat.lt_trichotomy a b with w | w | w
  · have := lt a b ha w; omega
  · exact w
  · have := lt b a hb w; omega
theorem pr_step (v0 : Int32) (n k : Nat) (hk : k < 6) : lp_X8_isPrime_9 v0 6 (n + 1) (nI k) = if primes k = v0 then some 0 else lp_X8_isPrime_9 v0 6 n (nI (k + 1)) := by
  rw [lp_X8_isPrime_9.eq_2, if_neg (show ¬ (6 : Int32) ≤ nI k from le_nI (a := 6) (by decide) (by omega) (by omega)), gd_in hk (by decide), cl (by omega), show nI k + 1 = nI (k + 1) from nI_1 k]
theorem e_prime (p : Int32) : (∃ q, 2 ≤ q ∧ q ≤ 13 ∧ p = nI q ∧ f_X8_isPrime p = some 1 ∧ f_X9_isPrime p = some 1) ∨ (f_X8_isPrime p = some 0 ∧ f_X9_isPrime p = some 0) := by
  have un : lp_X8_isPrime_9 p 6 FU 0 = if (2 : Int32) = p then some 0 else if (3 : Int32) = p then some 0 else if (5 : Int32) = p then some 0 else if (7 : Int32) = p then some 0 else if (11 : Int32) = p then some 0 else if (13 : Int32) = p then some 0 else some 1 := by
    show lp_X8_isPrime_9 p 6 (39999 + 1) (nI 0) = _
    rw [pr_step p _ 0 (by decide), pr_step p _ 1 (by decide), pr_step p _ 2 (by decide), pr_step p _ 3 (by decide), pr_step p _ 4 (by decide), pr_step p _ 5 (by decide), lp_X8_isPrime_9.eq_2, if_pos (show (6 : Int32) ≤ nI (5 + 1) by decide)]
    rfl
  by_cases w2 : p = 2
  · subst w2; exact Or.inl ⟨2, by decide, by decide, rfl, by unfold f_X8_isPrime; rw [un]; rfl, rfl⟩
  · by_cases w3 : p = 3
    · subst w3; exact Or.inl ⟨3, by decide, by decide, rfl, by unfold f_X8_isPrime; rw [un]; rfl, rfl⟩
    · by_cases w5 : p = 5
      · subst w5; exact Or.inl ⟨5, by decide, by decide, rfl, by unfold f_X8_isPrime; rw [un]; rfl, rfl⟩
      · by_cases w7 : p = 7
        · subst w7; exact Or.inl ⟨7, by decide, by decide, rfl, by unfold f_X8_isPrime; rw [un]; rfl, rfl⟩
        · by_cases w11 : p = 11
          · subst w11; exact Or.inl ⟨11, by decide, by decide, rfl, by unfold f_X8_isPrime; rw [un]; rfl, rfl⟩
          · by_cases w13 : p = 13
            · subst w13; exact Or.inl ⟨13, by decide, by decide, rfl, by unfold f_X8_isPrime; rw [un]; rfl, rfl⟩
            · right
              refine ⟨?_, ?_⟩
              · unfold f_X8_isPrime
                rw [un, if_neg (Ne.symm w2), if_neg (Ne.symm w3), if_neg (Ne.symm w5), if_neg (Ne.symm w7), if_neg (Ne.symm w11), if_neg (Ne.symm w13)]
                rfl
              · unfold f_X9_isPrime
                rw [if_neg w2, if_neg w3, if_neg w5, if_neg w7, if_neg w11, if_neg w13]
section MP
variable {Lst : SI → Prop}
theorem op_maps (hL : LFr Lst) {IB IM : SI} (h : Rel Lst IB IM) (a b : Int32) : ∃ v IB' IM', f_X8_maps a b IB = some (v, IB') ∧ f_X9_maps a b IM = some (v, IM') ∧ Rel Lst IB' IM' := by
  rcases pick a 6 (by decide) with ⟨t, ht, rfl⟩ | ha
  · rcases e_prime b with ⟨q, hq, hq2, rfl, p1, p2⟩ | ⟨p1, p2⟩
    · obtain ⟨r, N, IB', IM', ho, hB, hM, hB', hM', e1, e2, hR, g1, g2, hp, f1, f2⟩ := op_right hL h ht
      have er := e_isRightB ht e1
      have hT := pw_le (q := q) hq2 ho.1 ho.2.1
      by_cases hr : Right r N
      · rw [if_pos hr] at er e2
        obtain ⟨bb, I1, w1, w2, w3⟩ := B_walk0 (by omega) hB' ho hq hq2 hr (-1)
        obtain ⟨v, I2, y1, y2, y3⟩ := M_find hM' (by omega) ho hq hq2 (-2) (by decide)
        have hcm : ∀ x, x < q ^ (r - 1) → nI (cm N r q x) ≠ (-1 : Int32) := fun x hx => nI_nm1 (by have := cm_le N r q x; omega)
        have hv : I1 29 0 = nI (cm N r q (q ^ (r - 1))) := by
          rcases w3 with ⟨_, x0, b1, b2, b3, _⟩ | ⟨_, c1, _⟩
          · exact absurd b3 (hcm x0 b1)
          · exact c1
        have hv2 : v = nI (cm N r q (q ^ (r - 1))) := by
          rcases y3 with ⟨_, x0, b1, b2, b3, _⟩ | ⟨_, c1, _⟩
          · have : nI (cm N r q x0 + 1) = (-1 : Int32) := by
              have e : nI (cm N r q x0) + 1 = (-2 : Int32) + 1 := by rw [b3]
              exact (nI_1 _).symm.trans e
            exact absurd this (nI_nm1 (by have := cm_le N r q x0; omega))
          · exact c1
        refine ⟨nI (cm N r q (q ^ (r - 1))), I1, I2, ?_, ?_, (hR.frB hL w2 rfl).frM (FrM.of y2 (by decide) (by decide) (by decide) (by decide))⟩
        · unfold f_X8_maps
          rw [bd_ok (e_isTable_in ht), if_neg (by decide), bd_ok p1, if_neg (by decide), bd_ok er]
          show (if (1 : Int32) = 0 then _ else gd (nI t < 0 ∨ 6 ≤ (nI t).toNatClampNeg) (bd (f_X4_count (nI t).toNatClampNeg (nI q) IB') fun z => some (z.1, z.2))) = _
          rw [if_neg (by decide), gd6 ht, cl (by omega)]
          unfold f_X4_count
          rw [bd_ok w1]
          show some (I1 29 0, I1) = _
          rw [hv]
        · unfold f_X9_maps
          rw [bd_ok (e_noTable_in ht), if_pos rfl, bd_ok p2, if_neg (by decide), bd_ok e2]
          show (if (1 : Int32) = 0 then _ else (bd (f_X9_findMaps (nI t) (nI q) (-2) IM') fun z => some (z.1, z.2))) = _
          rw [if_neg (by decide), bd_ok y1, hv2]
      · rw [if_neg hr] at er e2
        refine ⟨-3, IB', IM', ?_, ?_, hR⟩
        · unfold f_X8_maps
          rw [bd_ok (e_isTable_in ht), if_neg (by decide), bd_ok p1, if_neg (by decide), bd_ok er]
          exact if_pos rfl
        · unfold f_X9_maps
          rw [bd_ok (e_noTable_in ht), if_pos rfl, bd_ok p2, if_neg (by decide), bd_ok e2]
          exact if_pos rfl
    · refine ⟨-2, IB, IM, ?_, ?_, h⟩
      · unfold f_X8_maps
        rw [bd_ok (e_isTable_in ht), if_neg (by decide), bd_ok p1, if_pos rfl]
      · unfold f_X9_maps
        rw [bd_ok (e_noTable_in ht), if_pos rfl, bd_ok p2, if_pos rfl]
  · refine ⟨-2, IB, IM, ?_, ?_, h⟩
    · unfold f_X8_maps
      rw [bd_ok (e_isTable_out ha), if_pos rfl]
    · unfold f_X9_maps
      rw [bd_ok (e_noTable_out ha), if_neg (by decide)]
theorem op_map (hL : LFr Lst) {IB IM : SI} (h : Rel Lst IB IM) (a b c d : Int32) : ∃ v IB' IM', f_X8_map a b c d IB = some (v, IB') ∧ f_X9_map a b c d IM = some (v, IM') ∧ Rel Lst IB' IM' := by
  rcases pick a 6 (by decide) with ⟨t, ht, rfl⟩ | ha
  · obtain ⟨r, N, IB', IM', ho, hB, hM, hB', hM', e1, e2, hR, g1, g2, hp, f1, f2⟩ := op_right hL h ht
    obtain ⟨h1, h5, h9⟩ := id ho
    rcases e_prime b with ⟨q, hq, hq2, rfl, p1, p2⟩ | ⟨p1, p2⟩
    · by_cases hc : c < 0
      · refine ⟨-2, IB, IM, ?_, ?_, h⟩
        · unfold f_X8_map
          rcases pick d r (by omega) with ⟨i, hi, rfl⟩ | hb
          · rw [bd_ok (e_isKindB_in ht hB.1 hi h5), if_neg (by decide), bd_ok p1, if_neg (by decide), if_neg (fun y => absurd hc (Int32.not_lt.mpr y))]
          · rw [bd_ok (e_isKindB_out ht hB.1 hb), if_pos rfl]
        · unfold f_X9_map
          rw [bd_ok (e_noTable_in ht), if_pos rfl, bd_ok p2, if_neg (by decide), if_pos hc]
      · rcases pick d r (by omega) with ⟨i, hi, rfl⟩ | hb
        · have er := e_isRightB ht e1
          have hT := pw_le (q := q) hq2 ho.1 ho.2.1
          by_cases hr : Right r N
          · rw [if_pos hr] at er e2
            have hc1 : c ≠ -1 := fun y => hc (by rw [y]; decide)
            obtain ⟨bb, I1, w1, w2, w3⟩ := B_walk0 (by omega) hB' ho hq hq2 hr c
            have eB : f_X8_map (nI t) (nI q) c (nI i) IB = if bb = 0 then some (-1, I1) else some (I1 28 i, I1) := by
              have hb01 : bb = 0 ∨ bb = 1 := by
                rcases w3 with ⟨y, _⟩ | ⟨y, _⟩
                · exact Or.inr y
                · exact Or.inl y
              unfold f_X8_map
              rw [bd_ok (e_isKindB_in ht hB.1 hi h5), if_neg (by decide), bd_ok p1, if_neg (by decide), if_pos (Int32.not_lt.mp hc), bd_ok er]
              show (if (1 : Int32) = 0 then _ else gd (nI t < 0 ∨ 6 ≤ (nI t).toNatClampNeg) (bd (f_X4_find (nI t).toNatClampNeg (nI q) c IB') fun z => if z.1 = 0 then some (-1, z.2) else gd (nI i < 0 ∨ 5 ≤ (nI i).toNatClampNeg) (some (z.2 28 (nI i).toNatClampNeg, z.2)))) = _
              rw [if_neg (by decide), gd6 ht, cl (show t < 2 ^ 31 by omega)]
              unfold f_X4_find
              rw [bd_ok w1]
              show bd (gd (¬ (bb = 0 ∨ bb = 1)) (some (bb, I1))) _ = _
              rw [gd_ok (fun y => y hb01), bd_ok rfl, gd_in (by omega) (by decide), cl (by omega)]
            by_cases hbig : (100000 : Int32) ≤ c
            · refine ⟨-1, I1, IM', ?_, ?_, hR.frB hL w2 rfl⟩
              · rcases w3 with ⟨_, x0, b1, b2, b3, _⟩ | ⟨c0, _, _⟩
                · rw [← b3] at hbig
                  exact absurd hbig (le_nI (a := 100000) (by decide) (by have := cm_le N r q x0; omega) (by have := cm_le N r q x0; omega))
                · rw [eB, if_pos c0]
              · unfold f_X9_map
                rw [bd_ok (e_noTable_in ht), if_pos rfl, bd_ok p2, if_neg (by decide), if_neg hc, bd_ok (e_isKind_in (by omega) hM.1 hi h5), if_neg (by decide), bd_ok e2]
                show (if (1 : Int32) = 0 then _ else _) = _
                rw [if_neg (by decide)]
                exact if_pos hbig
            · obtain ⟨v, I2, y1, y2, y3⟩ := M_find hM' (by omega) ho hq hq2 c hc1
              have eM : f_X9_map (nI t) (nI q) c (nI i) IM = if v = c + 1 then some (I2 10 i, I2) else some (-1, I2) := by
                unfold f_X9_map
                rw [bd_ok (e_noTable_in ht), if_pos rfl, bd_ok p2, if_neg (by decide), if_neg hc, bd_ok (e_isKind_in (by omega) hM.1 hi h5), if_neg (by decide), bd_ok e2]
                show (if (1 : Int32) = 0 then _ else if (100000 : Int32) ≤ c then _ else (bd (f_X9_findMaps (nI t) (nI q) c IM') fun z => if z.1 = c + 1 then gd (nI i < 0 ∨ 5 ≤ (nI i).toNatClampNeg) (some (z.2 10 (nI i).toNatClampNeg, z.2)) else some (-1, z.2))) = _
                rw [if_neg (by decide), if_neg hbig, bd_ok y1]
                show (if v = c + 1 then gd (nI i < 0 ∨ 5 ≤ (nI i).toNatClampNeg) (some (I2 10 (nI i).toNatClampNeg, I2)) else some (-1, I2)) = _
                rw [gd_in (by omega) (by decide), cl (by omega)]
              have hRR := (hR.frB hL w2 rfl).frM (FrM.of y2 (by decide) (by decide) (by decide) (by decide))
              rcases w3 with ⟨c0, x0, b1, b2, b3, b4⟩ | ⟨c0, c1, c2⟩
              · rcases y3 with ⟨d0, x1, d1, d2, d3, d4⟩ | ⟨d0, d1, d2⟩
                · have hx : x0 = x1 := cm_inj b2 d2 ((nI_eq (by have := cm_le N r q x0; omega) (by have := cm_le N r q x1; omega)).mp (b3.trans d3.symm))
                  refine ⟨nI (dgm q r x0 i), I1, I2, ?_, ?_, hRR⟩
                  · rw [eB, if_neg (by rw [c0]; decide), b4 i hi]
                  · rw [eM, if_pos d0, d4 i hi, hx]
                · exact absurd b3 (d2 x0 b1 b2)
              · rcases y3 with ⟨d0, x1, d1, d2, d3, d4⟩ | ⟨d0, d1, d2⟩
                · exact absurd d3 (c2 x1 d1 d2)
                · refine ⟨-1, I1, I2, ?_, ?_, hRR⟩
                  · rw [eB, if_pos c0]
                  · rw [eM, if_neg d0]
          · rw [if_neg hr] at er e2
            refine ⟨-3, IB', IM', ?_, ?_, hR⟩
            · unfold f_X8_map
              rw [bd_ok (e_isKindB_in ht hB.1 hi h5), if_neg (by decide), bd_ok p1, if_neg (by decide), if_pos (Int32.not_lt.mp hc), bd_ok er]
              exact if_pos rfl
            · unfold f_X9_map
              rw [bd_ok (e_noTable_in ht), if_pos rfl, bd_ok p2, if_neg (by decide), if_neg hc, bd_ok (e_isKind_in (by omega) hM.1 hi h5), if_neg (by decide), bd_ok e2]
              exact if_pos rfl
        · refine ⟨-2, IB, IM, ?_, ?_, h⟩
          · unfold f_X8_map
            rw [bd_ok (e_isKindB_out ht hB.1 hb), if_pos rfl]
          · unfold f_X9_map
            rw [bd_ok (e_noTable_in ht), if_pos rfl, bd_ok p2, if_neg (by decide), if_neg hc, bd_ok (e_isKind_out (by omega) hM.1 hb h1 h5), if_pos rfl]
    · refine ⟨-2, IB, IM, ?_, ?_, h⟩
      · unfold f_X8_map
        rcases pick d r (by omega) with ⟨i, hi, rfl⟩ | hb
        · rw [bd_ok (e_isKindB_in ht hB.1 hi h5), if_neg (by decide), bd_ok p1, if_pos rfl]
        · rw [bd_ok (e_isKindB_out ht hB.1 hb), if_pos rfl]
      · unfold f_X9_map
        rw [bd_ok (e_noTable_in ht), if_pos rfl, bd_ok p2, if_pos rfl]
  · refine ⟨-2, IB, IM, ?_, ?_, h⟩
    · unfold f_X8_map
      rw [bd_ok (e_isKindB_no ha), if_pos rfl]
    · unfold f_X9_map
      rw [bd_ok (e_noTable_out ha), if_neg (by decide)]
end MP
