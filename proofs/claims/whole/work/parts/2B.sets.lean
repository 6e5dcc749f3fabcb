/-! SETS of KINDS as bits -/
theorem bt_hold : ∀ s, s < 32 → ∀ i, i < 5 → ((nI s >>> (nI i &&& 31)) &&& 1) = (if s.testBit i then 1 else 0) := by decide +kernel
theorem bt_shl : ∀ i, i < 6 → ((1 : Int32) <<< (nI i &&& 31)) = nI (2 ^ i) := by decide +kernel
theorem bt_or : ∀ a, a < 32 → ∀ b, b < 32 → nI a ||| nI b = nI (a ||| b) := by decide +kernel
theorem bt_and1 : ∀ a, a < 32 → (nI a &&& 1 = 0 ↔ a.testBit 0 = false) := by decide +kernel
theorem bt_eq {a b : Nat} (ha : a < 32) (hb : b < 32) (h : ∀ i, i < 5 → a.testBit i = b.testBit i) : a = b := by
  refine Nat.eq_of_testBit_eq (fun i => ?_)
  by_cases hi : i < 5
  · exact h i hi
  · have e : ∀ {c : Nat}, c < 32 → c.testBit i = false := fun {c} hc => Nat.testBit_lt_two_pow (Nat.lt_of_lt_of_le hc (Nat.pow_le_pow_right (n := 2) (by decide) (show 5 ≤ i by omega)))
    rw [e ha, e hb]
/-- an int is the set of those that P tells -/
def Acc (a : Int32) (P : Nat → Prop) : Prop := ∃ v, v < 32 ∧ a = nI v ∧ ∀ b, b < 5 → (v.testBit b = true ↔ P b)
theorem Acc.eq {a b : Int32} {P Q : Nat → Prop} (h : Acc a P) (h2 : Acc b Q) (e : ∀ x, x < 5 → (P x ↔ Q x)) : a = b := by
  obtain ⟨v, h1, rfl, h3⟩ := h
  obtain ⟨w, g1, rfl, g3⟩ := h2
  congr 1
  refine bt_eq h1 g1 (fun i hi => ?_)
  have a := h3 i hi
  have b := g3 i hi
  have c := e i hi
  cases q1 : v.testBit i <;> cases q2 : w.testBit i <;> simp_all
theorem Acc.congr {a : Int32} {P Q : Nat → Prop} (h : Acc a P) (e : ∀ x, x < 5 → (P x ↔ Q x)) : Acc a Q := by
  obtain ⟨v, h1, h2, h3⟩ := h
  exact ⟨v, h1, h2, fun b hb => (h3 b hb).trans (e b hb)⟩
theorem Acc.or {a b : Int32} {P Q : Nat → Prop} (h : Acc a P) (h2 : Acc b Q) : Acc (a ||| b) (fun x => P x ∨ Q x) := by
  obtain ⟨v, h1, rfl, h3⟩ := h
  obtain ⟨w, g1, rfl, g3⟩ := h2
  refine ⟨v ||| w, Nat.or_lt_two_pow (n := 5) h1 g1, bt_or v h1 w g1, fun b hb => ?_⟩
  rw [Nat.testBit_or, Bool.or_eq_true, h3 b hb, g3 b hb]
theorem Acc.bit {k : Nat} (hk : k < 5) : Acc ((1 : Int32) <<< (nI k &&& 31)) (fun x => x = k) := by
  refine ⟨2 ^ k, Nat.pow_lt_pow_right (a := 2) (by decide) hk, bt_shl k (by omega), fun b hb => ?_⟩
  rw [Nat.testBit_two_pow]
  simp [eq_comm]
theorem Acc.zero : Acc 0 (fun _ => False) := ⟨0, by decide, rfl, fun b _ => by simp⟩
theorem Acc.one : Acc 1 (fun x => x = 0) := ⟨1, by decide, rfl, fun b hb => by
  rcases (show b = 0 ∨ b = 1 ∨ b = 2 ∨ b = 3 ∨ b = 4 by omega) with rfl | rfl | rfl | rfl | rfl <;> decide⟩
theorem Acc.self {v : Nat} (h : v < 32) : Acc (nI v) (fun b => v.testBit b = true) := ⟨v, h, rfl, fun _ _ => Iff.rfl⟩
theorem Acc.yes {a : Int32} {P : Nat → Prop} (h : Acc a P) {i : Nat} (hi : i < 5) (hp : P i) : ((a >>> (nI i &&& 31)) &&& 1) = 1 := by
  obtain ⟨v, h1, rfl, h3⟩ := h
  rw [bt_hold v h1 i hi, if_pos ((h3 i hi).mpr hp)]
theorem Acc.no {a : Int32} {P : Nat → Prop} (h : Acc a P) {i : Nat} (hi : i < 5) (hp : ¬ P i) : ((a >>> (nI i &&& 31)) &&& 1) = 0 := by
  obtain ⟨v, h1, rfl, h3⟩ := h
  rw [bt_hold v h1 i hi, if_neg (fun q => hp ((h3 i hi).mp q))]
theorem holds_yes {a : Int32} {P : Nat → Prop} (h : Acc a P) {i : Nat} (hi : i < 5) (hp : P i) : f_X5_holds a (nI i) = some 1 := by
  unfold f_X5_holds
  rw [h.yes hi hp, if_neg (by decide)]
theorem holds_no {a : Int32} {P : Nat → Prop} (h : Acc a P) {i : Nat} (hi : i < 5) (hp : ¬ P i) : f_X5_holds a (nI i) = some 0 := by
  unfold f_X5_holds
  rw [h.no hi hp, if_pos rfl]
/-- what a KIND i fused with some of S has -/
def Fw (N : Nat → Nat) (r i : Nat) (S : Nat → Prop) (b : Nat) : Prop := b < r ∧ ∃ j, j < r ∧ S j ∧ 0 < nn N i j b
def Gr (N : Nat → Nat) (r : Nat) (p : Nat → Nat) (S : Nat → Prop) (b : Nat) : Prop := S b ∨ ∃ i, i < r ∧ S i ∧ (b = p i ∨ Fw N r i S b)
theorem ex_lt_succ {j : Nat} {P : Nat → Prop} : (∃ q, q < j + 1 ∧ P q) ↔ ((∃ q, q < j ∧ P q) ∨ P j) := by
  constructor
  · rintro ⟨q, h1, h2⟩
    by_cases e : q = j
    · rw [e] at h2; exact Or.inr h2
    · exact Or.inl ⟨q, by omega, h2⟩
  · rintro (⟨q, h1, h2⟩ | h)
    · exact ⟨q, by omega, h2⟩
    · exact ⟨j, by omega, h⟩
theorem ex_lt_zero {P : Nat → Prop} : (∃ q, q < 0 ∧ P q) ↔ False := ⟨fun ⟨_, h, _⟩ => by omega, fun h => h.elim⟩
theorem B_fwa {I : SI} {x r : Nat} {N : Nat → Nat} (h : TB I x r N) (ho : OKT r N) {i : Nat} (hi : i < r) {s : Int32} {S : Nat → Prop} (hs : Acc s S) : ∃ a, f_X5_fusedWithAny x (nI i) s I = some a ∧ Acc a (Fw N r i S) := by
  obtain ⟨h1, h5, h9⟩ := id ho
  have e1 : ∀ j, j < r → ∀ (a : Int32) P, Acc a P → ∃ o, lp_X5_fusedWithAny_17 x (nI i) s (nI j) I FU a (nI 0) = some o ∧ Acc o (fun b => P b ∨ (b < r ∧ S j ∧ 0 < nn N i j b)) := by
    intro j hj a P ha
    refine exLoop (fun m k v => lp_X5_fusedWithAny_17 x (nI i) s (nI j) I m v (nI k)) r (fun k v => Acc v (fun b => P b ∨ (b < k ∧ S j ∧ 0 < nn N i j b))) _ (fun m v q => ?_) (fun m k v hk q => ?_) r 0 FU _ (Nat.zero_add r) (FUlt h5) (ha.congr (fun b _ => ⟨Or.inl, fun z => z.elim id (fun y => by omega)⟩))
    · refine ⟨v, ?_, q⟩
      show lp_X5_fusedWithAny_17 x (nI i) s (nI j) I (m + 1) v (nI r) = _
      rw [lp_X5_fusedWithAny_17.eq_2, h.1, if_pos (nI_le (Nat.le_refl _) (by omega))]
    · have e := B_num h (i := i) (j := j) (k := k) (by omega) (by omega) (by omega)
      have b9 := ho.nn (i := i) (j := j) (k := k) (by omega) (by omega) (by omega)
      have keep : (¬ (S j ∧ 0 < nn N i j k)) → Acc v (fun b => P b ∨ (b < k + 1 ∧ S j ∧ 0 < nn N i j b)) := fun z => q.congr (fun b _ => by
        constructor
        · rintro (w | ⟨w1, w2⟩)
          · exact Or.inl w
          · exact Or.inr ⟨by omega, w2⟩
        · rintro (w | ⟨w1, w2⟩)
          · exact Or.inl w
          · by_cases e : b = k
            · rw [e] at w2; exact absurd w2 z
            · exact Or.inr ⟨by omega, w2⟩)
      by_cases hS : S j
      · by_cases hp : 0 < nn N i j k
        · refine ⟨v ||| ((1 : Int32) <<< (nI k &&& 31)), ?_, (q.or (Acc.bit (by omega))).congr (fun b _ => ?_)⟩
          · show lp_X5_fusedWithAny_17 x (nI i) s (nI j) I (m + 1) v (nI k) = _
            rw [lp_X5_fusedWithAny_17.eq_2, h.1, if_neg (le_nI (by omega) (by omega) (by omega)), bd_ok (holds_yes hs (by omega) hS), if_neg (by decide), bd_ok e, if_neg (nI_nle hp (by omega)), show nI k + 1 = nI (k + 1) from nI_1 k]
          · constructor
            · rintro ((w | ⟨w1, w2⟩) | w)
              · exact Or.inl w
              · exact Or.inr ⟨by omega, w2⟩
              · rw [w]; exact Or.inr ⟨by omega, hS, hp⟩
            · rintro (w | ⟨w1, w2⟩)
              · exact Or.inl (Or.inl w)
              · by_cases z : b = k
                · exact Or.inr z
                · exact Or.inl (Or.inr ⟨by omega, w2⟩)
        · refine ⟨v, ?_, keep (fun z => hp z.2)⟩
          show lp_X5_fusedWithAny_17 x (nI i) s (nI j) I (m + 1) v (nI k) = _
          rw [lp_X5_fusedWithAny_17.eq_2, h.1, if_neg (le_nI (by omega) (by omega) (by omega)), bd_ok (holds_yes hs (by omega) hS), if_neg (by decide), bd_ok e, if_pos (show nI (nn N i j k) ≤ 0 by rw [show nn N i j k = 0 by omega]; decide), show nI k + 1 = nI (k + 1) from nI_1 k]
      · refine ⟨v, ?_, keep (fun z => hS z.1)⟩
        show lp_X5_fusedWithAny_17 x (nI i) s (nI j) I (m + 1) v (nI k) = _
        rw [lp_X5_fusedWithAny_17.eq_2, h.1, if_neg (le_nI (by omega) (by omega) (by omega)), bd_ok (holds_no hs (by omega) hS), if_pos rfl, show nI k + 1 = nI (k + 1) from nI_1 k]
  have e2 : ∃ o, lp_X5_fusedWithAny_5 x (nI i) s I FU 0 (nI 0) = some o ∧ Acc o (Fw N r i S) := by
    refine exLoop (fun m j v => lp_X5_fusedWithAny_5 x (nI i) s I m v (nI j)) r (fun j v => Acc v (fun b => b < r ∧ ∃ q, q < j ∧ S q ∧ 0 < nn N i q b)) _ (fun m v q => ?_) (fun m j v hj q => ?_) r 0 FU _ (Nat.zero_add r) (FUlt h5) (Acc.zero.congr (fun b _ => ⟨fun z => z.elim, fun z => ex_lt_zero.mp z.2⟩))
    · refine ⟨v, ?_, q⟩
      show lp_X5_fusedWithAny_5 x (nI i) s I (m + 1) v (nI r) = _
      rw [lp_X5_fusedWithAny_5.eq_2, h.1, if_pos (nI_le (Nat.le_refl _) (by omega))]
    · obtain ⟨o, e, ho2⟩ := e1 j hj v _ q
      refine ⟨o, ?_, ho2.congr (fun b _ => ?_)⟩
      · show lp_X5_fusedWithAny_5 x (nI i) s I (m + 1) v (nI j) = _
        rw [lp_X5_fusedWithAny_5.eq_2, h.1, if_neg (le_nI (by omega) (by omega) (by omega)), bd_ok (show lp_X5_fusedWithAny_17 x (nI i) s (nI j) I FU v 0 = some o from e), show nI j + 1 = nI (j + 1) from nI_1 j]
      · rw [ex_lt_succ]
        constructor
        · rintro (⟨a, b⟩ | ⟨a, b⟩)
          · exact ⟨a, Or.inl b⟩
          · exact ⟨a, Or.inr b⟩
        · rintro ⟨a, b | b⟩
          · exact Or.inl ⟨a, b⟩
          · exact Or.inr ⟨a, b⟩
  obtain ⟨o, e2, q⟩ := e2
  refine ⟨o, ?_, q⟩
  unfold f_X5_fusedWithAny
  rw [bd_ok (show lp_X5_fusedWithAny_5 x (nI i) s I FU 0 0 = some o from e2)]
theorem B_grow {I : SI} {x r : Nat} {N : Nat → Nat} (h : TB I x r N) (ho : OKT r N) {p : Nat → Nat} (hp : ∀ i, i < r → I 17 i = nI (p i) ∧ p i < r) {s : Int32} {S : Nat → Prop} (hs : Acc s S) : ∃ a, f_X5_grow x s I = some a ∧ Acc a (Gr N r p S) := by
  obtain ⟨h1, h5, h9⟩ := id ho
  have e : ∃ o, lp_X5_grow_5 x s I FU s (nI 0) = some o ∧ Acc o (Gr N r p S) := by
    refine exLoop (fun m i v => lp_X5_grow_5 x s I m v (nI i)) r (fun i v => Acc v (fun b => S b ∨ ∃ q, q < i ∧ S q ∧ (b = p q ∨ Fw N r q S b))) _ (fun m v q => ?_) (fun m i v hi q => ?_) r 0 FU _ (Nat.zero_add r) (FUlt h5) (hs.congr (fun b _ => by rw [ex_lt_zero]; simp))
    · refine ⟨v, ?_, q⟩
      show lp_X5_grow_5 x s I (m + 1) v (nI r) = _
      rw [lp_X5_grow_5.eq_2, h.1, if_pos (nI_le (Nat.le_refl _) (by omega))]
    · by_cases hS : S i
      · obtain ⟨a, e, ha⟩ := B_fwa h ho hi hs
        obtain ⟨p1, p2⟩ := hp i hi
        refine ⟨v ||| (((1 : Int32) <<< (nI (p i) &&& 31)) ||| a), ?_, (q.or ((Acc.bit (by omega)).or ha)).congr (fun b _ => ?_)⟩
        · show lp_X5_grow_5 x s I (m + 1) v (nI i) = _
          rw [lp_X5_grow_5.eq_2, h.1, if_neg (le_nI (by omega) (by omega) (by omega)), bd_ok (holds_yes hs (by omega) hS), if_neg (by decide), gd_in (by omega) (by decide), cl (by omega), bd_ok e, p1, show nI i + 1 = nI (i + 1) from nI_1 i]
        · rw [ex_lt_succ, or_assoc]
          constructor
          · rintro (w | w | w)
            · exact Or.inl w
            · exact Or.inr (Or.inl w)
            · exact Or.inr (Or.inr ⟨hS, w⟩)
          · rintro (w | w | ⟨_, w⟩)
            · exact Or.inl w
            · exact Or.inr (Or.inl w)
            · exact Or.inr (Or.inr w)
      · refine ⟨v, ?_, q.congr (fun b _ => ?_)⟩
        · show lp_X5_grow_5 x s I (m + 1) v (nI i) = _
          rw [lp_X5_grow_5.eq_2, h.1, if_neg (le_nI (by omega) (by omega) (by omega)), bd_ok (holds_no hs (by omega) hS), if_pos rfl, show nI i + 1 = nI (i + 1) from nI_1 i]
        · rw [ex_lt_succ]
          constructor
          · rintro (w | w)
            · exact Or.inl w
            · exact Or.inr (Or.inl w)
          · rintro (w | w | ⟨w, _⟩)
            · exact Or.inl w
            · exact Or.inr w
            · exact absurd w hS
  obtain ⟨o, e, q⟩ := e
  refine ⟨o, ?_, q⟩
  unfold f_X5_grow
  rw [bd_ok (show lp_X5_grow_5 x s I FU s 0 = some o from e)]
theorem or_zero32 {a : Int32} {P : Nat → Prop} (h : Acc a P) : a ||| 0 = a := by
  obtain ⟨v, h1, rfl, h3⟩ := h
  rw [n0, bt_or v h1 0 (by decide), Nat.or_zero]
theorem M_pass {I : SI} {t r : Nat} {N : Nat → Nat} (h : TM I t r N) (ht : t < 7) (ho : OKT r N) {p : Nat → Nat} (hp : ∀ i, i < r → I 3 i = nI (p i) ∧ p i < r) {s : Int32} {S : Nat → Prop} (hs : Acc s S) : ∃ a, lp_X9_close_19 (nI t) s I FU s 0 = some a ∧ Acc a (Gr N r p S) := by
  obtain ⟨h1, h5, h9⟩ := id ho
  have e1 : ∀ i j, i < r → j < r → ∀ (a : Int32) P, Acc a P → ∃ o, lp_X9_close_70 (nI t) s (nI i) (nI j) I FU a (nI 0) = some o ∧ Acc o (fun b => P b ∨ (b < r ∧ S j ∧ 0 < nn N i j b)) := by
    intro i j hi hj a P ha
    refine exLoop (fun m k v => lp_X9_close_70 (nI t) s (nI i) (nI j) I m v (nI k)) r (fun k v => Acc v (fun b => P b ∨ (b < k ∧ S j ∧ 0 < nn N i j b))) _ (fun m v q => ?_) (fun m k v hk q => ?_) r 0 FU _ (Nat.zero_add r) (FUlt h5) (ha.congr (fun b _ => ⟨Or.inl, fun z => z.elim id (fun y => by omega)⟩))
    · refine ⟨v, ?_, q⟩
      show lp_X9_close_70 (nI t) s (nI i) (nI j) I (m + 1) v (nI r) = _
      rw [lp_X9_close_70.eq_2, gd_in ht (by decide), cl (by omega), h.1, if_pos (nI_le (Nat.le_refl _) (by omega))]
    · have e := M_num h ht (i := i) (j := j) (k := k) (by omega) (by omega) (by omega)
      have b9 := ho.nn (i := i) (j := j) (k := k) (by omega) (by omega) (by omega)
      have keep : (¬ (S j ∧ 0 < nn N i j k)) → Acc v (fun b => P b ∨ (b < k + 1 ∧ S j ∧ 0 < nn N i j b)) := fun z => q.congr (fun b _ => by
        constructor
        · rintro (w | ⟨w1, w2⟩)
          · exact Or.inl w
          · exact Or.inr ⟨by omega, w2⟩
        · rintro (w | ⟨w1, w2⟩)
          · exact Or.inl w
          · by_cases e : b = k
            · rw [e] at w2; exact absurd w2 z
            · exact Or.inr ⟨by omega, w2⟩)
      by_cases hS : S j
      · by_cases hp : 0 < nn N i j k
        · refine ⟨v ||| ((1 : Int32) <<< (nI k &&& 31)), ?_, (q.or (Acc.bit (by omega))).congr (fun b _ => ?_)⟩
          · show lp_X9_close_70 (nI t) s (nI i) (nI j) I (m + 1) v (nI k) = _
            rw [lp_X9_close_70.eq_2, gd_in ht (by decide), cl (by omega), h.1, if_neg (le_nI (by omega) (by omega) (by omega)), hs.yes (by omega) hS, if_pos rfl, bd_ok e, if_neg (nI_nle hp (by omega)), show nI k + 1 = nI (k + 1) from nI_1 k]
          · constructor
            · rintro ((w | ⟨w1, w2⟩) | w)
              · exact Or.inl w
              · exact Or.inr ⟨by omega, w2⟩
              · rw [w]; exact Or.inr ⟨by omega, hS, hp⟩
            · rintro (w | ⟨w1, w2⟩)
              · exact Or.inl (Or.inl w)
              · by_cases z : b = k
                · exact Or.inr z
                · exact Or.inl (Or.inr ⟨by omega, w2⟩)
        · refine ⟨v, ?_, keep (fun z => hp z.2)⟩
          show lp_X9_close_70 (nI t) s (nI i) (nI j) I (m + 1) v (nI k) = _
          rw [lp_X9_close_70.eq_2, gd_in ht (by decide), cl (by omega), h.1, if_neg (le_nI (by omega) (by omega) (by omega)), hs.yes (by omega) hS, if_pos rfl, bd_ok e, if_pos (show nI (nn N i j k) ≤ 0 by rw [show nn N i j k = 0 by omega]; decide), or_zero32 q, show nI k + 1 = nI (k + 1) from nI_1 k]
      · refine ⟨v, ?_, keep (fun z => hS z.1)⟩
        show lp_X9_close_70 (nI t) s (nI i) (nI j) I (m + 1) v (nI k) = _
        rw [lp_X9_close_70.eq_2, gd_in ht (by decide), cl (by omega), h.1, if_neg (le_nI (by omega) (by omega) (by omega)), hs.no (by omega) hS, if_neg (by decide), or_zero32 q, show nI k + 1 = nI (k + 1) from nI_1 k]
  have e2 : ∀ i, i < r → ∀ (a : Int32) P, Acc a P → ∃ o, lp_X9_close_56 (nI t) s (nI i) I FU a (nI 0) = some o ∧ Acc o (fun b => P b ∨ Fw N r i S b) := by
    intro i hi a P ha
    refine exLoop (fun m j v => lp_X9_close_56 (nI t) s (nI i) I m v (nI j)) r (fun j v => Acc v (fun b => P b ∨ (b < r ∧ ∃ q, q < j ∧ S q ∧ 0 < nn N i q b))) _ (fun m v q => ?_) (fun m j v hj q => ?_) r 0 FU _ (Nat.zero_add r) (FUlt h5) (ha.congr (fun b _ => ⟨Or.inl, fun z => z.elim id (fun y => (ex_lt_zero.mp y.2).elim)⟩))
    · refine ⟨v, ?_, q⟩
      show lp_X9_close_56 (nI t) s (nI i) I (m + 1) v (nI r) = _
      rw [lp_X9_close_56.eq_2, gd_in ht (by decide), cl (by omega), h.1, if_pos (nI_le (Nat.le_refl _) (by omega))]
    · obtain ⟨o, e, ho2⟩ := e1 i j hi hj v _ q
      refine ⟨o, ?_, ho2.congr (fun b _ => ?_)⟩
      · show lp_X9_close_56 (nI t) s (nI i) I (m + 1) v (nI j) = _
        rw [lp_X9_close_56.eq_2, gd_in ht (by decide), cl (by omega), h.1, if_neg (le_nI (by omega) (by omega) (by omega)), bd_ok (show lp_X9_close_70 (nI t) s (nI i) (nI j) I FU v 0 = some o from e), show nI j + 1 = nI (j + 1) from nI_1 j]
      · rw [ex_lt_succ]
        constructor
        · rintro ((a | ⟨a, b⟩) | ⟨a, b⟩)
          · exact Or.inl a
          · exact Or.inr ⟨a, Or.inl b⟩
          · exact Or.inr ⟨a, Or.inr b⟩
        · rintro (a | ⟨a, b | b⟩)
          · exact Or.inl (Or.inl a)
          · exact Or.inl (Or.inr ⟨a, b⟩)
          · exact Or.inr ⟨a, b⟩
  refine exLoop (fun m i v => lp_X9_close_19 (nI t) s I m v (nI i)) r (fun i v => Acc v (fun b => S b ∨ ∃ q, q < i ∧ S q ∧ (b = p q ∨ Fw N r q S b))) _ (fun m v q => ?_) (fun m i v hi q => ?_) r 0 FU _ (Nat.zero_add r) (FUlt h5) (hs.congr (fun b _ => by rw [ex_lt_zero]; simp))
  · refine ⟨v, ?_, q⟩
    show lp_X9_close_19 (nI t) s I (m + 1) v (nI r) = _
    rw [lp_X9_close_19.eq_2, gd_in ht (by decide), cl (by omega), h.1, if_pos (nI_le (Nat.le_refl _) (by omega))]
  · by_cases hS : S i
    · obtain ⟨p1, p2⟩ := hp i hi
      obtain ⟨a, e, ha⟩ := e2 i hi (v ||| ((1 : Int32) <<< (nI (p i) &&& 31))) _ (q.or (Acc.bit (by omega)))
      refine ⟨a, ?_, ha.congr (fun b _ => ?_)⟩
      · show lp_X9_close_19 (nI t) s I (m + 1) v (nI i) = _
        rw [lp_X9_close_19.eq_2, gd_in ht (by decide), cl (by omega), h.1, if_neg (le_nI (by omega) (by omega) (by omega)), hs.yes (by omega) hS, if_pos rfl, gd_in (show i < 5 by omega) (by decide), cl (show i < 2 ^ 31 by omega), p1, bd_ok (show lp_X9_close_56 (nI t) s (nI i) I FU (v ||| ((1 : Int32) <<< (nI (p i) &&& 31))) 0 = some a from e), show nI i + 1 = nI (i + 1) from nI_1 i]
      · rw [ex_lt_succ]
        constructor
        · rintro (((w | w) | w) | w)
          · exact Or.inl w
          · exact Or.inr (Or.inl w)
          · exact Or.inr (Or.inr ⟨hS, Or.inl w⟩)
          · exact Or.inr (Or.inr ⟨hS, Or.inr w⟩)
        · rintro (w | w | ⟨_, w | w⟩)
          · exact Or.inl (Or.inl (Or.inl w))
          · exact Or.inl (Or.inl (Or.inr w))
          · exact Or.inl (Or.inr w)
          · exact Or.inr w
    · refine ⟨v, ?_, q.congr (fun b _ => ?_)⟩
      · show lp_X9_close_19 (nI t) s I (m + 1) v (nI i) = _
        rw [lp_X9_close_19.eq_2, gd_in ht (by decide), cl (by omega), h.1, if_neg (le_nI (by omega) (by omega) (by omega)), hs.no (by omega) hS, if_neg (by decide), show nI i + 1 = nI (i + 1) from nI_1 i]
      · rw [ex_lt_succ]
        constructor
        · rintro (w | w)
          · exact Or.inl w
          · exact Or.inr (Or.inl w)
        · rintro (w | w | ⟨w, _⟩)
          · exact Or.inl w
          · exact Or.inr w
          · exact absurd w hS
