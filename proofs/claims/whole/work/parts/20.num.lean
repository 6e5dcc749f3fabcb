/-! NUMBERS: what the pure functions read and write, in natural numbers -/
def TB (I : SI) (x r : Nat) (N : Nat → Nat) : Prop := I (8 + x) 0 = nI r ∧ ∀ c, c < 125 → I x c = nI (N c)
def TM (I : SI) (t r : Nat) (N : Nat → Nat) : Prop := I 0 t = nI r ∧ ∀ c, c < 125 → I 1 (125 * t + c) = nI (N c)
def OKT (r : Nat) (N : Nat → Nat) : Prop := 1 ≤ r ∧ r ≤ 5 ∧ ∀ c, c < 125 → N c ≤ 9
/-- nothing but the ids in S has changed -/
def Fr (S : List Nat) (I I' : SI) : Prop := ∀ k, k ∉ S → I' k = I k
def FrJ (S : List Nat) (J J' : SJ) : Prop := ∀ k, k ∉ S → J' k = J k
theorem Fr.rf {S : List Nat} {I : SI} : Fr S I I := fun _ _ => rfl
theorem Fr.trans {S : List Nat} {I I1 I2 : SI} (h : Fr S I I1) (h2 : Fr S I1 I2) : Fr S I I2 := fun k hk => (h2 k hk).trans (h k hk)
theorem Fr.mono {S S' : List Nat} {I I1 : SI} (h : Fr S I I1) (hs : ∀ k, k ∈ S → k ∈ S') : Fr S' I I1 := fun k hk => h k (fun q => hk (hs k q))
theorem n0 : (0 : Int32) = nI 0 := rfl
theorem n1 : (1 : Int32) = nI 1 := rfl
theorem n2 : (2 : Int32) = nI 2 := rfl
theorem n3 : (3 : Int32) = nI 3 := rfl
theorem n4 : (4 : Int32) = nI 4 := rfl
theorem n5 : (5 : Int32) = nI 5 := rfl
theorem n6 : (6 : Int32) = nI 6 := rfl
theorem n7 : (7 : Int32) = nI 7 := rfl
theorem n9 : (9 : Int32) = nI 9 := rfl
theorem n10 : (10 : Int32) = nI 10 := rfl
theorem n12 : (12 : Int32) = nI 12 := rfl
theorem n14 : (14 : Int32) = nI 14 := rfl
theorem n25 : (25 : Int32) = nI 25 := rfl
theorem n125 : (125 : Int32) = nI 125 := rfl
theorem gd_in {α : Type} {c n : Nat} {x : Option α} (h : c < n) (hn : n < 2 ^ 31) : gd (nI c < 0 ∨ n ≤ (nI c).toNatClampNeg) x = x := gd_ok (nI_in h hn)
theorem cl {c : Nat} (h : c < 2 ^ 31) : (nI c).toNatClampNeg = c := nI_clamp h
theorem ups_same {I : SI} {k i : Nat} {v : Int32} : ups I k i v k i = v := by simp [ups, va_up, upd]
theorem ups_at {I : SI} {k i j : Nat} {v : Int32} : ups I k i v k j = if j = i then v else I k j := by simp [ups, va_up, upd]
theorem ups_id {I : SI} {k i k' : Nat} {v : Int32} (h : k' ≠ k) : ups I k i v k' = I k' := by simp [ups, va_up, h]
theorem sets_at {I : SI} {k : Nat} {v : Int32} {j : Nat} : sets I k v k j = v := by simp [sets, va_up]
theorem sets_id {I : SI} {k k' : Nat} {v : Int32} (h : k' ≠ k) : sets I k v k' = I k' := by simp [sets, va_up, h]
theorem upj_at {J : SJ} {k i j : Nat} {v : Int64} : upj J k i v k j = if j = i then v else J k j := by simp [upj, va_up, vp_updL]
theorem upj_id {J : SJ} {k i k' : Nat} {v : Int64} (h : k' ≠ k) : upj J k i v k' = J k' := by simp [upj, va_up, h]
theorem Fr.ups {S : List Nat} {I I1 : SI} {k i : Nat} {v : Int32} (h : Fr S I I1) (hk : k ∈ S) : Fr S I (ups I1 k i v) := fun q hq => by rw [ups_id (fun e => hq (by rw [e]; exact hk))]; exact h q hq
theorem Fr.sets {S : List Nat} {I I1 : SI} {k : Nat} {v : Int32} (h : Fr S I I1) (hk : k ∈ S) : Fr S I (sets I1 k v) := fun q hq => by rw [sets_id (fun e => hq (by rw [e]; exact hk))]; exact h q hq
def setN (N : Nat → Nat) (c v : Nat) : Nat → Nat := fun d => if d = c then v else N d
theorem TB.put {I : SI} {x r : Nat} {N : Nat → Nat} (h : TB I x r N) (c v : Nat) : TB (ups I x c (nI v)) x r (setN N c v) := by
  refine ⟨by rw [ups_id (by omega)]; exact h.1, fun d hd => ?_⟩
  rw [ups_at, setN]
  by_cases e : d = c
  · rw [if_pos e, if_pos e]
  · rw [if_neg e, if_neg e]; exact h.2 d hd
theorem TM.put {I : SI} {t r : Nat} {N : Nat → Nat} (h : TM I t r N) (c v : Nat) : TM (ups I 1 (125 * t + c) (nI v)) t r (setN N c v) := by
  refine ⟨by rw [ups_id (by decide)]; exact h.1, fun d hd => ?_⟩
  rw [ups_at, setN]
  by_cases e : d = c
  · rw [if_pos (by omega), if_pos e]
  · rw [if_neg (by omega), if_neg e]; exact h.2 d hd
theorem TB.fr {I I' : SI} {x r : Nat} {N : Nat → Nat} (h : TB I x r N) {S : List Nat} (hf : Fr S I I') (h1 : x ∉ S) (h2 : 8 + x ∉ S) : TB I' x r N := ⟨by rw [hf _ h2]; exact h.1, fun c hc => by rw [hf _ h1]; exact h.2 c hc⟩
theorem TM.fr {I I' : SI} {t r : Nat} {N : Nat → Nat} (h : TM I t r N) {S : List Nat} (hf : Fr S I I') (h1 : 0 ∉ S) (h2 : 1 ∉ S) : TM I' t r N := ⟨by rw [hf _ h1]; exact h.1, fun c hc => by rw [hf _ h2]; exact h.2 c hc⟩
theorem e_placeOf (i j k : Nat) : f_X7_placeOf (nI i) (nI j) (nI k) = some (nI (25 * i + 5 * j + k)) := by
  unfold f_X7_placeOf
  rw [n5, pk_mul, nI_add, pk_mul, nI_add]
  congr 2; omega
theorem e_number {x i j k : Nat} {I : SI} (h : 25 * i + 5 * j + k < 125) : f_X7_number x (nI i) (nI j) (nI k) I = some (I x (25 * i + 5 * j + k)) := by
  unfold f_X7_number
  rw [bd_ok (e_placeOf i j k), gd_in h (by decide), cl (by omega)]
theorem e_setNumber {x i j k : Nat} {v : Int32} {I : SI} (h : 25 * i + 5 * j + k < 125) : f_X7_setNumber x (nI i) (nI j) (nI k) v I = some (ups I x (25 * i + 5 * j + k) v) := by
  unfold f_X7_setNumber
  rw [bd_ok (e_placeOf i j k), gd_in h (by decide), cl (by omega)]
theorem e_n {t i j k : Nat} {I : SI} (ht : t < 7) (h : 25 * i + 5 * j + k < 125) : f_X9_n (nI t) (nI i) (nI j) (nI k) I = some (I 1 (125 * t + (25 * i + 5 * j + k))) := by
  unfold f_X9_n
  rw [n125, n25, n5, pk_mul, pk_mul, pk_mul, nI_add, nI_add, nI_add, gd_in (by omega) (by decide), cl (by omega)]
  congr 2; omega
theorem e_lay {t i j k : Nat} {v : Int32} {I : SI} (ht : t < 7) (h : 25 * i + 5 * j + k < 125) : f_X9_lay (nI t) (nI i) (nI j) (nI k) v I = some (ups I 1 (125 * t + (25 * i + 5 * j + k)) v) := by
  unfold f_X9_lay
  rw [n125, n25, n5, pk_mul, pk_mul, pk_mul, nI_add, nI_add, nI_add, gd_in (by omega) (by decide), cl (by omega)]
  congr 2; omega
/-- a number within bounds, or not -/
theorem e_isTable_in {t : Nat} (h : t < 6) : f_X8_isTable (nI t) = some 1 := by
  unfold f_X8_isTable
  rw [if_neg (nI_pos (by omega)), n6, if_neg (by rw [nI_leI (by decide) (by omega)]; omega)]
theorem e_isTable_out {t : Int32} (h : t < 0 ∨ nI 6 ≤ t) : f_X8_isTable t = some 0 := by
  unfold f_X8_isTable
  by_cases h0 : t < 0
  · rw [if_pos h0]
  · rw [if_neg h0, n6, if_pos (h.resolve_left h0)]
theorem i2l_le (a b : Int32) : a.toInt64 ≤ b.toInt64 ↔ a ≤ b := by
  rw [Int64.le_iff_toInt_le, Int32.le_iff_toInt_le, Int32.toInt_toInt64, Int32.toInt_toInt64]
theorem i2l_lt (a b : Int32) : a.toInt64 < b.toInt64 ↔ a < b := by
  rw [Int64.lt_iff_toInt_lt, Int32.lt_iff_toInt_lt, Int32.toInt_toInt64, Int32.toInt_toInt64]
theorem e_in (a b c : Int64) : f_X9_in a b c = some (if b ≤ a ∧ a ≤ c then 1 else 0) := by
  unfold f_X9_in
  by_cases h : a < b
  · rw [if_pos ((lg_cmp_lt a b).mpr h), if_neg (fun q => ?_)]
    have := q.1
    rw [Int64.le_iff_toInt_le] at this
    rw [Int64.lt_iff_toInt_lt] at h
    omega
  · rw [if_neg (fun q => h ((lg_cmp_lt a b).mp q))]
    by_cases h2 : c < a
    · rw [if_pos ((lg_cmp_gt a c).mpr h2), if_neg (fun q => ?_)]
      have := q.2
      rw [Int64.le_iff_toInt_le] at this
      rw [Int64.lt_iff_toInt_lt] at h2
      omega
    · rw [if_neg (fun q => h2 ((lg_cmp_gt a c).mp q)), if_pos]
      rw [Int64.lt_iff_toInt_lt] at h h2
      rw [Int64.le_iff_toInt_le, Int64.le_iff_toInt_le]
      omega
theorem e_inI (a b c : Int32) : f_X9_in a.toInt64 b.toInt64 c.toInt64 = some (if b ≤ a ∧ a ≤ c then 1 else 0) := by
  rw [e_in]
  simp only [i2l_le]
theorem l0 : (0 : Int64) = (0 : Int32).toInt64 := rfl
theorem l1 : (1 : Int64) = (1 : Int32).toInt64 := rfl
theorem l2 : (2 : Int64) = (2 : Int32).toInt64 := rfl
theorem l3 : (3 : Int64) = (3 : Int32).toInt64 := rfl
theorem l4 : (4 : Int64) = (4 : Int32).toInt64 := rfl
theorem l5 : (5 : Int64) = (5 : Int32).toInt64 := rfl
theorem l9 : (9 : Int64) = (9 : Int32).toInt64 := rfl
theorem l12 : (12 : Int64) = (12 : Int32).toInt64 := rfl
theorem nin {a b c : Nat} (h1 : a < 2 ^ 31) (h2 : b < 2 ^ 31) (h3 : c < 2 ^ 31) : (nI b ≤ nI a ∧ nI a ≤ nI c) ↔ (b ≤ a ∧ a ≤ c) := by rw [nI_leI h2 h1, nI_leI h1 h3]
/-- an int, below 0, from M on, or a natural number below M -/
theorem pick (x : Int32) (M : Nat) (hM : M < 2 ^ 31) : (∃ j : Nat, j < M ∧ x = nI j) ∨ (x < 0 ∨ nI M ≤ x) := by
  rcases pk_ix x hM with h | h | h
  · exact Or.inr (Or.inl h)
  · exact Or.inr (Or.inr h)
  · exact Or.inl h
theorem out_in {x : Int32} {M : Nat} (hM : M < 2 ^ 31) (h : x < 0 ∨ nI M ≤ x) (b : Nat) : ¬ (nI b ≤ x ∧ x ≤ nI M - 1) ∨ b ≥ 2 ^ 31 ∨ M = 0 := by
  by_cases hb : b ≥ 2 ^ 31
  · exact Or.inr (Or.inl hb)
  by_cases h0 : M = 0
  · exact Or.inr (Or.inr h0)
  refine Or.inl (fun q => ?_)
  obtain ⟨q1, q2⟩ := q
  obtain ⟨K, rfl⟩ : ∃ K, M = K + 1 := ⟨M - 1, by omega⟩
  rw [nI_pred] at q2
  rw [Int32.le_iff_toInt_le, nI_toInt (by omega)] at q1 q2
  rcases h with h | h
  · rw [Int32.lt_iff_toInt_lt] at h
    have : (0 : Int32).toInt = 0 := rfl
    omega
  · rw [Int32.le_iff_toInt_le, nI_toInt (by omega)] at h
    omega
theorem e_noTable_in {t : Nat} (h : t < 6) : f_X9_noTable (nI t) = some 0 := by
  unfold f_X9_noTable
  rw [l0, l5, n0, n5, bd_ok (e_inI _ _ _), if_pos ((nin (by omega) (by decide) (by decide)).mpr ⟨by omega, by omega⟩), if_neg (by decide)]
theorem e_noTable_out {t : Int32} (h : t < 0 ∨ nI 6 ≤ t) : f_X9_noTable t = some 1 := by
  unfold f_X9_noTable
  have q : ¬ (nI 0 ≤ t ∧ t ≤ nI 5) := by
    rcases out_in (by decide) h 0 with q | q | q
    · exact q
    · omega
    · omega
  rw [l0, l5, n0, n5, bd_ok (e_inI _ _ _), if_neg q, if_pos n0]
theorem e_isKind_in {t k r : Nat} {I : SI} (ht : t < 7) (hr : I 0 t = nI r) (h : k < r) (h5 : r ≤ 5) : f_X9_isKind (nI t) (nI k) I = some 1 := by
  unfold f_X9_isKind
  obtain ⟨q, rfl⟩ : ∃ q, r = q + 1 := ⟨r - 1, by omega⟩
  rw [gd_in (by omega) (by decide), cl (by omega), hr, n1, show nI (q + 1) - nI 1 = nI q from nI_pred q, l0, n0, bd_ok (e_inI _ _ _), if_pos ((nin (by omega) (by decide) (by omega)).mpr ⟨by omega, by omega⟩)]
  rfl
theorem e_isKind_out {t r : Nat} {k : Int32} {I : SI} (ht : t < 7) (hr : I 0 t = nI r) (h : k < 0 ∨ nI r ≤ k) (h1 : 1 ≤ r) (h5 : r ≤ 5) : f_X9_isKind (nI t) k I = some 0 := by
  unfold f_X9_isKind
  have q : ¬ (nI 0 ≤ k ∧ k ≤ nI r - 1) := by
    rcases out_in (by omega) h 0 with q | q | q
    · exact q
    · omega
    · omega
  rw [gd_in (by omega) (by decide), cl (by omega), hr, l0, n0, bd_ok (e_inI _ _ _), if_neg q]
  rfl
theorem e_has_in {x k r : Nat} {I : SI} (hr : I (8 + x) 0 = nI r) (h : k < r) (h5 : r ≤ 5) : f_X7_has x (nI k) I = some 1 := by
  unfold f_X7_has
  rw [if_neg (nI_pos (by omega)), hr, if_neg (by rw [nI_leI (by omega) (by omega)]; omega)]
theorem e_has_out {x r : Nat} {k : Int32} {I : SI} (hr : I (8 + x) 0 = nI r) (h : k < 0 ∨ nI r ≤ k) : f_X7_has x k I = some 0 := by
  unfold f_X7_has
  by_cases h0 : k < 0
  · rw [if_pos h0]
  · rw [if_neg h0, hr, if_pos (h.resolve_left h0)]
