/-! THE RELATION of the two states; the first calls -/
def Tabs (IB IM : SI) : Prop := ∀ t, t < 6 → ∃ r N, OKT r N ∧ TB IB t r N ∧ TM IM t r N
def Wrd (IB IM : SI) : Prop := ∃ n, n ≤ 14 ∧ IB 38 0 = nI n ∧ IM 15 0 = nI n ∧ ∀ j, j < n → ∃ k, k < 5 ∧ IB 33 j = nI k ∧ IM 6 j = nI k
/-- what is said of the listing speaks of these ids alone -/
def LFr (Lst : SI → Prop) : Prop := ∀ I I', (∀ k, k ∈ [22, 24, 50, 51, 52, 53, 54] → I' k = I k) → Lst I → Lst I'
def Rel (Lst : SI → Prop) (IB IM : SI) : Prop := Tabs IB IM ∧ Wrd IB IM ∧ IB 26 0 = 0 ∧ Lst IB
/-- the reference's ids beside tables 0 .. 5 and the word -/
def FrM (I I' : SI) : Prop := I' 6 = I 6 ∧ I' 15 = I 15 ∧ (∀ t, t < 6 → I' 0 t = I 0 t) ∧ ∀ c, c < 750 → I' 1 c = I 1 c
theorem FrM.rf {I : SI} : FrM I I := ⟨rfl, rfl, fun _ _ => rfl, fun _ _ => rfl⟩
theorem FrM.trans {I I1 I2 : SI} (h : FrM I I1) (h2 : FrM I1 I2) : FrM I I2 := ⟨h2.1.trans h.1, h2.2.1.trans h.2.1, fun t ht => (h2.2.2.1 t ht).trans (h.2.2.1 t ht), fun c hc => (h2.2.2.2 c hc).trans (h.2.2.2 c hc)⟩
theorem FrM.of {I I' : SI} {S : List Nat} (h : Fr S I I') (h0 : 0 ∉ S) (h1 : 1 ∉ S) (h6 : 6 ∉ S) (h15 : 15 ∉ S) : FrM I I' := ⟨h 6 h6, h 15 h15, fun t _ => by rw [h 0 h0], fun c _ => by rw [h 1 h1]⟩
theorem FrM.ofT {I I' : SI} (h : FrT 6 I I') : FrM I I' := ⟨h.1 6 (by decide) (by decide), h.1 15 (by decide) (by decide), fun t ht => h.2.1 t (by omega), fun c hc => h.2.2 c (by omega)⟩
def inFrB (k : Nat) : Bool := k == 6 || k == 7 || k == 14 || k == 15 || k == 16 || k == 17 || k == 18 || k == 19 || k == 20 || k == 21 || k == 23 || k == 28 || k == 29 || k == 30
theorem frB_not {S : List Nat} (h : S.all inFrB = true) {k : Nat} (hk : inFrB k = false) : k ∉ S := fun q => by
  have := List.all_eq_true.mp h k q
  rw [hk] at this
  cases this
theorem inFrB_tab {t : Nat} (ht : t < 6) : inFrB t = false ∧ inFrB (8 + t) = false := by
  rcases (show t = 0 ∨ t = 1 ∨ t = 2 ∨ t = 3 ∨ t = 4 ∨ t = 5 by omega) with rfl | rfl | rfl | rfl | rfl | rfl <;> decide
theorem Rel.frB {Lst : SI → Prop} (hL : LFr Lst) {IB IB' IM : SI} (h : Rel Lst IB IM) {S : List Nat} (hf : Fr S IB IB') (hS : S.all inFrB = true) : Rel Lst IB' IM := by
  obtain ⟨h1, ⟨n, w1, w2, w3, w4⟩, h3, h4⟩ := h
  refine ⟨fun t ht => ?_, ⟨n, w1, ?_, w3, fun j hj => ?_⟩, ?_, hL IB IB' (fun k hk => ?_) h4⟩
  · obtain ⟨r, N, a, b, c⟩ := h1 t ht
    exact ⟨r, N, a, b.fr hf (frB_not hS (inFrB_tab ht).1) (frB_not hS (inFrB_tab ht).2), c⟩
  · rw [hf 38 (frB_not hS rfl)]; exact w2
  · rw [hf 33 (frB_not hS rfl)]; exact w4 j hj
  · rw [hf 26 (frB_not hS rfl)]; exact h3
  · simp only [List.mem_cons, List.not_mem_nil, or_false] at hk
    rcases hk with rfl | rfl | rfl | rfl | rfl | rfl | rfl <;> exact hf _ (frB_not hS rfl)
theorem Rel.frM {Lst : SI → Prop} {IB IM IM' : SI} (h : Rel Lst IB IM) (hf : FrM IM IM') : Rel Lst IB IM' := by
  obtain ⟨h1, ⟨n, w1, w2, w3, w4⟩, h3, h4⟩ := h
  refine ⟨fun t ht => ?_, ⟨n, w1, w2, ?_, fun j hj => ?_⟩, h3, h4⟩
  · obtain ⟨r, N, a, b, c⟩ := h1 t ht
    exact ⟨r, N, a, b, by rw [hf.2.2.1 t ht]; exact c.1, fun d hd => by rw [hf.2.2.2 _ (by omega)]; exact c.2 d hd⟩
  · rw [hf.2.1]; exact w3
  · rw [hf.1]; exact w4 j hj
/-- one table written anew, on both sides -/
theorem Rel.tab {Lst : SI → Prop} (hL : LFr Lst) {IB IB' IM IM' : SI} (h : Rel Lst IB IM) {t r : Nat} {N : Nat → Nat} (ht : t < 6) (ho : OKT r N) (hB : BT t r N IB IB') (hM : MT t r N IM IM') : Rel Lst IB' IM' := by
  obtain ⟨h1, ⟨n, w1, w2, w3, w4⟩, h3, h4⟩ := h
  have hk : ∀ k, 14 ≤ k → IB' k = IB k := fun k hk => hB.1 k (by simp; omega)
  have hm : ∀ k, 2 ≤ k → IM' k = IM k := fun k hk => hM.1.1 k (by omega) (by omega)
  refine ⟨fun u hu => ?_, ⟨n, w1, ?_, ?_, fun j hj => ?_⟩, ?_, hL IB IB' (fun k hk2 => ?_) h4⟩
  · by_cases e : u = t
    · subst e
      exact ⟨r, N, ho, hB.2, hM.2⟩
    · obtain ⟨r', N', a, b, c⟩ := h1 u hu
      exact ⟨r', N', a, b.fr hB.1 (by simp; omega) (by simp; omega), c.frT hM.1 e⟩
  · rw [hk 38 (by decide)]; exact w2
  · rw [hm 15 (by decide)]; exact w3
  · rw [hk 33 (by decide), hm 6 (by decide)]; exact w4 j hj
  · rw [hk 26 (by decide)]; exact h3
  · simp only [List.mem_cons, List.not_mem_nil, or_false] at hk2
    rcases hk2 with rfl | rfl | rfl | rfl | rfl | rfl | rfl <;> exact hk _ (by decide)
theorem gd6 {α : Type} {t : Nat} {x : Option α} (h : t < 6) : gd (nI t < 0 ∨ 6 ≤ (nI t).toNatClampNeg) x = x := gd_in h (by decide)
theorem e_isKindB_in {t k r : Nat} {I : SI} (ht : t < 6) (hr : I (8 + t) 0 = nI r) (hk : k < r) (h5 : r ≤ 5) : f_X8_isKind (nI t) (nI k) I = some 1 := by
  unfold f_X8_isKind
  rw [bd_ok (e_isTable_in ht), if_neg (by decide), gd6 ht, cl (by omega), bd_ok (e_has_in hr hk h5), if_neg (by decide)]
theorem e_isKindB_out {t r : Nat} {k : Int32} {I : SI} (ht : t < 6) (hr : I (8 + t) 0 = nI r) (hk : k < 0 ∨ nI r ≤ k) : f_X8_isKind (nI t) k I = some 0 := by
  unfold f_X8_isKind
  rw [bd_ok (e_isTable_in ht), if_neg (by decide), gd6 ht, cl (by omega), bd_ok (e_has_out hr hk), if_pos rfl]
theorem e_isKindB_no {t k : Int32} {I : SI} (ht : t < 0 ∨ nI 6 ≤ t) : f_X8_isKind t k I = some 0 := by
  unfold f_X8_isKind
  rw [bd_ok (e_isTable_out ht), if_pos rfl]
/-- whether t, i, j, k are a place; class and reference -/
theorem e_place {IB IM : SI} (h : Tabs IB IM) (t i j k : Int32) : (f_X8_isPlace t i j k IB = some 0 ∧ (f_X9_noTable t = some 1 ∨ (f_X9_noTable t = some 0 ∧ (f_X9_isKind t i IM = some 0 ∨ (f_X9_isKind t i IM = some 1 ∧ (f_X9_isKind t j IM = some 0 ∨ (f_X9_isKind t j IM = some 1 ∧ f_X9_isKind t k IM = some 0)))))))
    ∨ ∃ (t' i' j' k' r : Nat) (N : Nat → Nat), t = nI t' ∧ i = nI i' ∧ j = nI j' ∧ k = nI k' ∧ t' < 6 ∧ i' < r ∧ j' < r ∧ k' < r ∧ OKT r N ∧ TB IB t' r N ∧ TM IM t' r N ∧ f_X8_isPlace t i j k IB = some 1 ∧ f_X9_noTable t = some 0 ∧ f_X9_isKind t i IM = some 1 ∧ f_X9_isKind t j IM = some 1 ∧ f_X9_isKind t k IM = some 1 := by
  rcases pick t 6 (by decide) with ⟨t', ht, rfl⟩ | ht
  · obtain ⟨r, N, ho, hB, hM⟩ := h t' ht
    obtain ⟨h1, h5, h9⟩ := id ho
    have hn := e_noTable_in ht
    rcases pick i r (by omega) with ⟨i', hi, rfl⟩ | hi
    · have bi := e_isKindB_in ht hB.1 hi h5
      have mi := e_isKind_in (show t' < 7 by omega) hM.1 hi h5
      rcases pick j r (by omega) with ⟨j', hj, rfl⟩ | hj
      · have bj := e_has_in hB.1 hj h5
        have mj := e_isKind_in (show t' < 7 by omega) hM.1 hj h5
        rcases pick k r (by omega) with ⟨k', hk, rfl⟩ | hk
        · have bk := e_has_in hB.1 hk h5
          have mk := e_isKind_in (show t' < 7 by omega) hM.1 hk h5
          refine Or.inr ⟨t', i', j', k', r, N, rfl, rfl, rfl, rfl, ht, hi, hj, hk, ho, hB, hM, ?_, hn, mi, mj, mk⟩
          unfold f_X8_isPlace
          rw [bd_ok bi, if_neg (by decide), gd6 ht, cl (by omega), bd_ok bj, if_neg (by decide), gd_ok (by have := nI_in ht (N := 6) (by decide); rw [cl (by omega)] at this; exact this), bd_ok bk, if_neg (by decide)]
        · refine Or.inl ⟨?_, Or.inr ⟨hn, Or.inr ⟨mi, Or.inr ⟨mj, e_isKind_out (by omega) hM.1 hk h1 h5⟩⟩⟩⟩
          unfold f_X8_isPlace
          rw [bd_ok bi, if_neg (by decide), gd6 ht, cl (by omega), bd_ok bj, if_neg (by decide), gd_ok (by have := nI_in ht (N := 6) (by decide); rw [cl (by omega)] at this; exact this), bd_ok (e_has_out hB.1 hk), if_pos rfl]
      · refine Or.inl ⟨?_, Or.inr ⟨hn, Or.inr ⟨mi, Or.inl (e_isKind_out (by omega) hM.1 hj h1 h5)⟩⟩⟩
        unfold f_X8_isPlace
        rw [bd_ok bi, if_neg (by decide), gd6 ht, cl (by omega), bd_ok (e_has_out hB.1 hj), if_pos rfl]
    · refine Or.inl ⟨?_, Or.inr ⟨hn, Or.inl (e_isKind_out (by omega) hM.1 hi h1 h5)⟩⟩
      unfold f_X8_isPlace
      rw [bd_ok (e_isKindB_out ht hB.1 hi), if_pos rfl]
  · refine Or.inl ⟨?_, Or.inl (e_noTable_out ht)⟩
    unfold f_X8_isPlace
    rw [bd_ok (e_isKindB_no ht), if_pos rfl]
/-- a number within 0 .. 9 on both sides -/
theorem e_in9 (v : Int32) (b M : Nat) (hb : b ≤ M) (hM : M < 100) : (∃ v', b ≤ v' ∧ v' ≤ M ∧ v = nI v' ∧ f_X9_in v.toInt64 (nI b).toInt64 (nI M).toInt64 = some 1) ∨ ((v < nI b ∨ ¬ v ≤ nI M) ∧ f_X9_in v.toInt64 (nI b).toInt64 (nI M).toInt64 = some 0) := by
  rw [e_inI]
  by_cases h : nI b ≤ v ∧ v ≤ nI M
  · left
    have h0 : ¬ v < 0 := fun q => by
      have a := h.1
      rw [Int32.le_iff_toInt_le, nI_toInt (by omega)] at a
      rw [Int32.lt_iff_toInt_lt] at q
      have : (0 : Int32).toInt = 0 := rfl
      omega
    obtain ⟨v', hv, e⟩ := nI_of2 (M := nI M) (n := M) (nI_toInt (by omega)) h0 h.2
    refine ⟨v', ?_, hv, e, by rw [if_pos h]⟩
    have a := h.1
    rw [e, nI_leI (by omega) (by omega)] at a
    exact a
  · right
    refine ⟨?_, by rw [if_neg h]⟩
    by_cases q : v < nI b
    · exact Or.inl q
    · refine Or.inr (fun z => h ⟨?_, z⟩)
      rw [Int32.le_iff_toInt_le]
      rw [Int32.lt_iff_toInt_lt] at q
      omega
section O1
variable {Lst : SI → Prop}
theorem op_rank (hL : LFr Lst) {IB IM : SI} (h : Rel Lst IB IM) (a b : Int32) : ∃ v IB' IM', f_X8_rank a b IB = some (v, IB') ∧ f_X9_rank a b IM = some (v, IM') ∧ Rel Lst IB' IM' := by
  rcases pick a 6 (by decide) with ⟨t, ht, rfl⟩ | ha
  · rcases e_in9 b 1 5 (by decide) (by decide) with ⟨r, h1, h5, rfl, e⟩ | ⟨hb, e⟩
    · obtain ⟨IB', e1, h2⟩ := B_reset (x := t) (by omega) h5 IB
      obtain ⟨IM', e3, h4⟩ := M_begin (t := t) (by omega) h5 IM
      refine ⟨1, IB', IM', ?_, ?_, h.tab hL ht ⟨h1, h5, unitN_le r⟩ h2 h4⟩
      · unfold f_X8_rank
        rw [bd_ok (e_isTable_in ht), if_neg (by decide), if_neg (show ¬ nI r < 1 from nI_nlt h1 (by omega)), if_pos (show nI r ≤ 5 from nI_le h5 (by decide)), gd6 ht, cl (by omega), bd_ok e1]
      · unfold f_X9_rank
        rw [bd_ok (e_noTable_in ht), if_pos rfl, bd_ok (show f_X9_in (nI r).toInt64 1 5 = some 1 from e), if_neg (by decide), bd_ok e3]
    · refine ⟨-2, IB, IM, ?_, ?_, h⟩
      · unfold f_X8_rank
        rw [bd_ok (e_isTable_in ht), if_neg (by decide)]
        by_cases q : b < 1
        · rw [if_pos q]
        · rw [if_neg q, if_neg (show ¬ b ≤ 5 from hb.resolve_left q)]
      · unfold f_X9_rank
        rw [bd_ok (e_noTable_in ht), if_pos rfl, bd_ok (show f_X9_in b.toInt64 1 5 = some 0 from e), if_pos rfl]
  · refine ⟨-2, IB, IM, ?_, ?_, h⟩
    · unfold f_X8_rank
      rw [bd_ok (e_isTable_out ha), if_pos rfl]
    · unfold f_X9_rank
      rw [bd_ok (e_noTable_out ha), if_neg (by decide)]
theorem op_put (hL : LFr Lst) {IB IM : SI} (h : Rel Lst IB IM) (t i j k v : Int32) : ∃ a IB' IM', f_X8_put t i j k v IB = some (a, IB') ∧ f_X9_put t i j k v IM = some (a, IM') ∧ Rel Lst IB' IM' := by
  rcases e_place h.1 t i j k with ⟨hb, hm⟩ | ⟨t', i', j', k', r, N, rfl, rfl, rfl, rfl, ht, hi, hj, hk, ho, hB, hM, b1, m0, m1, m2, m3⟩
  · refine ⟨-2, IB, IM, ?_, ?_, h⟩
    · unfold f_X8_put
      rw [bd_ok hb, if_pos rfl]
    · unfold f_X9_put
      rcases hm with hm | ⟨q0, hm⟩
      · rw [bd_ok hm, if_neg (by decide)]
      rw [bd_ok q0, if_pos rfl]
      rcases hm with hm | ⟨q1, hm⟩
      · rw [bd_ok hm, if_pos rfl]
      rw [bd_ok q1, if_neg (by decide)]
      rcases hm with hm | ⟨q2, hm⟩
      · rw [bd_ok hm, if_pos rfl]
      rw [bd_ok q2, if_neg (by decide), bd_ok hm, if_pos rfl]
  · obtain ⟨h1, h5, h9⟩ := id ho
    rcases e_in9 v 0 9 (by decide) (by decide) with ⟨w, _, hw, rfl, e⟩ | ⟨hv, e⟩
    · refine ⟨nI (nn N i' j' k'), _, _, ?_, ?_, h.tab hL ht (r := r) (N := setN N (25 * i' + 5 * j' + k') w) ⟨h1, h5, setN_le h9 hw⟩ ⟨Fr.rf.ups (by simp), hB.put _ _⟩ ⟨FrT.rf.cell (by omega) _, hM.put _ _⟩⟩
      · unfold f_X8_put
        rw [bd_ok b1, if_neg (by decide), if_neg (show ¬ nI w < 0 from nI_pos (by omega)), if_pos (show nI w ≤ 9 from nI_le hw (by decide)), gd6 ht, cl (by omega), bd_ok (B_num hB (by omega) (by omega) (by omega)), gd_ok (by have := nI_in ht (N := 6) (by decide); rw [cl (by omega)] at this; exact this), bd_ok (e_setNumber (by omega))]
      · unfold f_X9_put
        rw [bd_ok m0, if_pos rfl, bd_ok m1, if_neg (by decide), bd_ok m2, if_neg (by decide), bd_ok m3, if_neg (by decide), bd_ok (show f_X9_in (nI w).toInt64 0 9 = some 1 from e), if_neg (by decide), bd_ok (M_num hM (by omega) (by omega) (by omega) (by omega)), bd_ok (e_lay (by omega) (by omega))]
    · refine ⟨-2, IB, IM, ?_, ?_, h⟩
      · unfold f_X8_put
        rw [bd_ok b1, if_neg (by decide)]
        by_cases q : v < 0
        · rw [if_pos q]
        · rw [if_neg q, if_neg (show ¬ v ≤ 9 from hv.resolve_left q)]
      · unfold f_X9_put
        rw [bd_ok m0, if_pos rfl, bd_ok m1, if_neg (by decide), bd_ok m2, if_neg (by decide), bd_ok m3, if_neg (by decide), bd_ok (show f_X9_in v.toInt64 0 9 = some 0 from e), if_pos rfl]
theorem op_at {IB IM : SI} (h : Rel Lst IB IM) (t i j k : Int32) : ∃ a, f_X8_at t i j k IB = some a ∧ f_X9_at t i j k IM = some a := by
  rcases e_place h.1 t i j k with ⟨hb, hm⟩ | ⟨t', i', j', k', r, N, rfl, rfl, rfl, rfl, ht, hi, hj, hk, ho, hB, hM, b1, m0, m1, m2, m3⟩
  · refine ⟨-2, ?_, ?_⟩
    · unfold f_X8_at
      rw [bd_ok hb, if_pos rfl]
    · unfold f_X9_at
      rcases hm with hm | ⟨q0, hm⟩
      · rw [bd_ok hm, if_neg (by decide)]
      rw [bd_ok q0, if_pos rfl]
      rcases hm with hm | ⟨q1, hm⟩
      · rw [bd_ok hm, if_pos rfl]
      rw [bd_ok q1, if_neg (by decide)]
      rcases hm with hm | ⟨q2, hm⟩
      · rw [bd_ok hm, if_pos rfl]
      rw [bd_ok q2, if_neg (by decide), bd_ok hm, if_pos rfl]
  · obtain ⟨h1, h5, h9⟩ := id ho
    refine ⟨nI (nn N i' j' k'), ?_, ?_⟩
    · unfold f_X8_at
      rw [bd_ok b1, if_neg (by decide), gd6 ht, cl (by omega), bd_ok (B_num hB (by omega) (by omega) (by omega))]
    · unfold f_X9_at
      rw [bd_ok m0, if_pos rfl, bd_ok m1, if_neg (by decide), bd_ok m2, if_neg (by decide), bd_ok m3, if_neg (by decide), bd_ok (M_num hM (by omega) (by omega) (by omega) (by omega))]
theorem op_empty (hL : LFr Lst) {IB IM : SI} (h : Rel Lst IB IM) : ∃ a IB' IM', f_X8_empty IB = some (a, IB') ∧ f_X9_empty IM = some (a, IM') ∧ Rel Lst IB' IM' := by
  obtain ⟨h1, ⟨n, w1, w2, w3, w4⟩, h3, h4⟩ := h
  unfold f_X8_empty f_X9_empty
  rw [w2, w3]
  refine ⟨_, _, _, rfl, rfl, fun t ht => ?_, ⟨0, by omega, sets_at, sets_at, fun j hj => by omega⟩, by rw [sets_id (by decide)]; exact h3, hL _ _ (fun k hk => sets_id (fun e => by subst e; simp at hk)) h4⟩
  obtain ⟨r, N, a, b, c⟩ := h1 t ht
  exact ⟨r, N, a, b.fr (S := [38]) (Fr.rf.sets (by simp)) (by simp; omega) (by simp; omega), c.fr (S := [15]) (Fr.rf.sets (by simp)) (by decide) (by decide)⟩
theorem op_letter (hL : LFr Lst) {IB IM : SI} (h : Rel Lst IB IM) (k : Int32) : ∃ a IB' IM', f_X8_letter k IB = some (a, IB') ∧ f_X9_letter k IM = some (a, IM') ∧ Rel Lst IB' IM' := by
  obtain ⟨h1, ⟨n, w1, w2, w3, w4⟩, h3, h4⟩ := id h
  rcases e_in9 k 0 4 (by decide) (by decide) with ⟨v, _, hv, rfl, e⟩ | ⟨hk, e⟩
  · by_cases hn : n = 14
    · refine ⟨-3, IB, IM, ?_, ?_, h⟩
      · unfold f_X8_letter
        rw [if_neg (show ¬ nI v < 0 from nI_pos (by omega)), if_pos (show nI v < 5 from nI_lt (b := 5) (by omega) (by decide)), w2, if_neg (show ¬ nI n < 14 from nI_nlt (b := 14) (by omega) (by omega))]
      · unfold f_X9_letter
        rw [bd_ok (show f_X9_in (nI v).toInt64 0 4 = some 1 from e), if_neg (by decide), w3, if_pos (by rw [hn]; rfl)]
    · refine ⟨nI (n + 1), sets (ups IB 33 n (nI v)) 38 (nI (n + 1)), sets (ups IM 6 n (nI v)) 15 (nI (n + 1)), ?_, ?_, fun t ht => ?_, ⟨n + 1, by omega, sets_at, sets_at, fun j hj => ?_⟩, by rw [sets_id (by decide), ups_id (by decide)]; exact h3, hL _ _ (fun k hk => by rw [sets_id (fun e => by subst e; simp at hk), ups_id (fun e => by subst e; simp at hk)]) h4⟩
      · unfold f_X8_letter
        rw [if_neg (show ¬ nI v < 0 from nI_pos (by omega)), if_pos (show nI v < 5 from nI_lt (b := 5) (by omega) (by decide)), w2, if_pos (show nI n < 14 from nI_lt (b := 14) (by omega) (by decide)), gd_in (by omega) (by decide), cl (by omega), sets_at, ups_id (by decide), w2, n1, nI_add]
      · unfold f_X9_letter
        rw [bd_ok (show f_X9_in (nI v).toInt64 0 4 = some 1 from e), if_neg (by decide), w3, if_neg (show ¬ nI n = 14 from eq_nI (b := 14) (by omega) (by omega) hn), gd_in (by omega) (by decide), cl (by omega), sets_at, ups_id (by decide), w3, n1, nI_add]
      · obtain ⟨r, N, a, b, c⟩ := h1 t ht
        exact ⟨r, N, a, b.fr (S := [33, 38]) ((Fr.rf.ups (by simp)).sets (by simp)) (by simp; omega) (by simp; omega), c.fr (S := [6, 15]) ((Fr.rf.ups (by simp)).sets (by simp)) (by decide) (by decide)⟩
      · rw [sets_id (by decide), sets_id (by decide), ups_at, ups_at]
        by_cases q : j = n
        · exact ⟨v, by omega, by rw [if_pos q], by rw [if_pos q]⟩
        · rw [if_neg q, if_neg q]
          exact w4 j (by omega)
  · refine ⟨-2, IB, IM, ?_, ?_, h⟩
    · unfold f_X8_letter
      by_cases q : k < 0
      · rw [if_pos q]
      · have hk := hk.resolve_left q
        rw [if_neg q, if_neg (fun z => hk ?_)]
        rw [Int32.le_iff_toInt_le]
        rw [Int32.lt_iff_toInt_lt] at z
        have a1 : (5 : Int32).toInt = 5 := rfl
        have a2 : (nI 4).toInt = 4 := rfl
        omega
    · unfold f_X9_letter
      rw [bd_ok (show f_X9_in k.toInt64 0 4 = some 0 from e), if_pos rfl]
end O1
