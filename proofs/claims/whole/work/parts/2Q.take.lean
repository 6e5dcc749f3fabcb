/-! LISTS: the reference goes through; list and take alike -/
def FrL (I S : SI) : Prop := (∀ k, k ≠ 0 → k ≠ 1 → k ≠ 2 → k ≠ 3 → S k = I k) ∧ FrM I S
theorem FrL.rf {I : SI} : FrL I I := ⟨fun _ _ _ _ _ => rfl, FrM.rf⟩
theorem FrL.mt {I S S' : SI} (h : FrL I S) (h2 : FrT 6 S S') : FrL I S' := ⟨fun k a b c d => (h2.1 k a b).trans (h.1 k a b c d), h.2.trans (FrM.ofT h2)⟩
theorem FrL.right {I S S' : SI} (h : FrL I S) (h2 : Fr [2, 3] S S') : FrL I S' := ⟨fun k a b c d => (h2 k (by simp; omega)).trans (h.1 k a b c d), h.2.trans (FrM.of h2 (by decide) (by decide) (by decide) (by decide))⟩
theorem M_go {r m p K : Nat} (h : cfgm r m p) (hK : 1 ≤ K) {v4 : Int32} (hv : ∀ c, c ≤ 1024 → (nI c = v4 + 1 ↔ c = K)) (I : SI) :
    ∃ c I', f_X9_goThrough (nI r) (nI m) (nI p) v4 I = some (nI c, I') ∧ FrM I I' ∧ ((c = K ∧ ∃ u, u < tot r m p ∧ RtU r m p u ∧ cnR r m p u + 1 = K ∧ TM I' 6 r (cN r p (dgw m (FT r p) u))) ∨ (c = cnR r m p (tot r m p) ∧ c < K)) := by
  obtain ⟨hc, hm1, hm3, _⟩ := id h
  obtain ⟨t1, t2⟩ := tot_le h
  have ft := (tabT hc).2.2.2
  obtain ⟨S0, e0, f0, a14, a4, a5⟩ := M_like hc I
  have e12 : lp_X9_goThrough_12 (nI r) (nI m) (nI p) v4 S0 FU 1 0 = some (nI (tot r m p)) := by
    have e : lp_X9_goThrough_12 (nI r) (nI m) (nI p) v4 S0 FU (nI ((m + 1) ^ 0)) (nI 0) = some (nI ((m + 1) ^ FT r p)) := by
      refine upLoop (fun n k => lp_X9_goThrough_12 (nI r) (nI m) (nI p) v4 S0 n (nI ((m + 1) ^ k)) (nI k)) (FT r p) _ (fun n => ?_) (fun n k hk => ?_) (FT r p) 0 FU (Nat.zero_add _) (by unfold FU; omega)
      · show lp_X9_goThrough_12 (nI r) (nI m) (nI p) v4 S0 (n + 1) _ (nI (FT r p)) = _
        rw [lp_X9_goThrough_12.eq_2, a14, if_pos (nI_le (Nat.le_refl _) (by omega))]
      · show lp_X9_goThrough_12 (nI r) (nI m) (nI p) v4 S0 (n + 1) (nI ((m + 1) ^ k)) (nI k) = lp_X9_goThrough_12 (nI r) (nI m) (nI p) v4 S0 n (nI ((m + 1) ^ (k + 1))) (nI (k + 1))
        rw [lp_X9_goThrough_12.eq_2, a14, if_neg (le_nI (by omega) (by omega) (by omega)), show nI m + 1 = nI (m + 1) from nI_1 m, pk_mul, ← Nat.pow_succ, show nI k + 1 = nI (k + 1) from nI_1 k]
    exact e
  have key : ∀ d u n (S : SI), u + d = tot r m p → d < n → FrL S0 S → cnR r m p u ≤ K → (cnR r m p u = K → ∃ u', u' < tot r m p ∧ RtU r m p u' ∧ cnR r m p u' + 1 = K ∧ TM S 6 r (cN r p (dgw m (FT r p) u'))) →
      ∃ c I', lp_X9_goThrough_41 (nI r) (nI m) (nI p) v4 (nI (tot r m p)) n (nI (cnR r m p u)) (nI u) S = some (nI c, I') ∧ FrM S0 I' ∧ ((c = K ∧ ∃ u, u < tot r m p ∧ RtU r m p u ∧ cnR r m p u + 1 = K ∧ TM I' 6 r (cN r p (dgw m (FT r p) u))) ∨ (c = cnR r m p (tot r m p) ∧ c < K)) := by
    intro d
    induction d with
    | zero =>
      intro u n S hu hn hf hk hq
      obtain ⟨k, rfl⟩ : ∃ k, n = k + 1 := ⟨n - 1, by omega⟩
      have e : u = tot r m p := by omega
      subst e
      refine ⟨cnR r m p (tot r m p), S, by rw [lp_X9_goThrough_41.eq_2, if_pos (nI_le (Nat.le_refl _) (by omega))], hf.2, ?_⟩
      by_cases w : cnR r m p (tot r m p) = K
      · exact Or.inl ⟨w, hq w⟩
      · exact Or.inr ⟨rfl, by omega⟩
    | succ d ih =>
      intro u n S hu hn hf hk hq
      obtain ⟨k, rfl⟩ : ∃ k, n = k + 1 := ⟨n - 1, by omega⟩
      have cu := cnR_le r m p u
      rw [lp_X9_goThrough_41.eq_2, if_neg (le_nI (by omega) (by omega) (by omega))]
      by_cases w : cnR r m p u = K
      · rw [if_pos ((hv _ (by omega)).mpr w)]
        exact ⟨cnR r m p u, S, rfl, hf.2, Or.inl ⟨w, hq w⟩⟩
      · rw [if_neg (fun z => w ((hv _ (by omega)).mp z))]
        obtain ⟨S1, e1, b1⟩ := M_lay (I := S) (u := u) hc hm3 (by rw [hf.1 14 (by decide) (by decide) (by decide) (by decide)]; exact a14) (by rw [hf.1 4 (by decide) (by decide) (by decide) (by decide)]; exact a4) (by rw [hf.1 5 (by decide) (by decide) (by decide) (by decide)]; exact a5) (by omega)
        obtain ⟨S2, e2, f2, _, _⟩ := M_right b1.2 (by decide) (cN_ok hc (fun f => by have := dgw_le m (FT r p) u f; omega))
        have hf2 := (hf.mt b1.1).right f2
        have tm2 := b1.2.fr f2 (by decide) (by decide)
        rw [bd_ok e1, bd_ok (show f_X9_isRight 6 S1 = _ from e2)]
        by_cases y : RtU r m p u
        · obtain ⟨c, I', e, q⟩ := ih (u + 1) k S2 (by omega) (by omega) hf2 (by rw [cnR_y y]; omega) (fun z => ⟨u, by omega, y, by rw [cnR_y y] at z; exact z, tm2⟩)
          refine ⟨c, I', ?_, q⟩
          rw [if_pos y]
          show (if (1 : Int32) = 0 then _ else lp_X9_goThrough_41 (nI r) (nI m) (nI p) v4 (nI (tot r m p)) k (nI (cnR r m p u) + 1) (nI u + 1) S2) = _
          rw [if_neg (by decide), show nI (cnR r m p u) + 1 = nI (cnR r m p u + 1) from nI_1 _, show nI u + 1 = nI (u + 1) from nI_1 u, ← cnR_y y]
          exact e
        · obtain ⟨c, I', e, q⟩ := ih (u + 1) k S2 (by omega) (by omega) hf2 (by rw [cnR_n y]; omega) (fun z => absurd (by rw [cnR_n y] at z; exact z) w)
          refine ⟨c, I', ?_, q⟩
          rw [if_neg y]
          show (if (0 : Int32) = 0 then lp_X9_goThrough_41 (nI r) (nI m) (nI p) v4 (nI (tot r m p)) k (nI (cnR r m p u) + 0) (nI u + 1) S2 else _) = _
          rw [if_pos rfl, show nI (cnR r m p u) + 0 = nI (cnR r m p u) from nI_add _ 0, show nI u + 1 = nI (u + 1) from nI_1 u, ← cnR_n y]
          exact e
  obtain ⟨c, I', e, f, q⟩ := key (tot r m p) 0 FU S0 (Nat.zero_add _) (by unfold FU; omega) FrL.rf (Nat.zero_le _) (fun z => by have z : 0 = K := z; omega)
  refine ⟨c, I', ?_, (FrM.of f0 (by decide) (by decide) (by decide) (by decide)).trans f, q⟩
  unfold f_X9_goThrough
  rw [bd_ok e0, bd_ok e12, bd_ok (show lp_X9_goThrough_41 (nI r) (nI m) (nI p) v4 (nI (tot r m p)) FU 0 0 S0 = some (nI c, I') from e)]
/-- what may be listed -/
theorem lsD : ∀ r, r < 5 → ∀ m, m < 4 → ∀ p, p < 2 → f_X8_isListed (nI r) (nI m) (nI p) = f_X9_isListed (nI r) (nI m) (nI p) := by decide +kernel
theorem lsD2 : ∀ r, r < 5 → ∀ m, m < 4 → ∀ p, p < 2 → f_X9_isListed (nI r) (nI m) (nI p) = some (if ((r = 2 ∧ p = 0) ∨ (r = 3 ∧ p = 0) ∨ (r = 3 ∧ p = 1) ∨ (r = 4 ∧ p = 0) ∨ (r = 4 ∧ p = 1)) ∧ 1 ≤ m ∧ m ≤ 3 ∧ (r = 4 → m = 1) then 1 else 0) := by decide +kernel
theorem lt_i (a b : Int32) : (a < b) ↔ a.toInt < b.toInt := Int32.lt_iff_toInt_lt
theorem le_i (a b : Int32) : (a ≤ b) ↔ a.toInt ≤ b.toInt := Int32.le_iff_toInt_le
theorem in_out {a b c : Int32} (h : a < b ∨ c < a) : f_X9_in a.toInt64 b.toInt64 c.toInt64 = some 0 := by
  rw [e_inI, if_neg]
  rw [le_i, le_i]
  rw [lt_i, lt_i] at h
  omega
theorem in_c (a b c : Int32) : f_X9_in a.toInt64 b.toInt64 c.toInt64 = some 0 ∨ f_X9_in a.toInt64 b.toInt64 c.toInt64 = some 1 := by
  rw [e_inI]
  by_cases q : b ≤ a ∧ a ≤ c
  · rw [if_pos q]; exact Or.inr rfl
  · rw [if_neg q]; exact Or.inl rfl
theorem in24 (a : Int32) : f_X9_in a.toInt64 2 4 = f_X9_in a.toInt64 (2 : Int32).toInt64 (4 : Int32).toInt64 := by rw [← l2, ← l4]
theorem in11 (a : Int32) : f_X9_in a.toInt64 1 1 = f_X9_in a.toInt64 (1 : Int32).toInt64 (1 : Int32).toInt64 := by rw [← l1]
theorem in13 (a : Int32) : f_X9_in a.toInt64 1 3 = f_X9_in a.toInt64 (1 : Int32).toInt64 (3 : Int32).toInt64 := by rw [← l1, ← l3]
theorem in00 (a : Int32) : f_X9_in a.toInt64 0 0 = f_X9_in a.toInt64 (0 : Int32).toInt64 (0 : Int32).toInt64 := by rw [← l0]
theorem in01 (a : Int32) : f_X9_in a.toInt64 0 1 = f_X9_in a.toInt64 (0 : Int32).toInt64 (1 : Int32).toInt64 := by rw [← l0, ← l1]
theorem lsM_a {a b c : Int32} (h : a < 2 ∨ 4 < a) : f_X9_isListed a b c = some 0 := by
  unfold f_X9_isListed
  rw [bd_ok ((in24 a).trans (in_out h)), if_pos rfl]
theorem lsM_b {a b c : Int32} (h : b < 1 ∨ 3 < b ∨ (a = 4 ∧ 1 < b)) : f_X9_isListed a b c = some 0 := by
  unfold f_X9_isListed
  rcases in_c a 2 4 with e | e
  · rw [bd_ok ((in24 a).trans e), if_pos rfl]
  · rw [bd_ok ((in24 a).trans e), if_neg (by decide)]
    by_cases w : a = 4
    · rw [if_pos w, bd_ok ((in11 b).trans (in_out (by
        rcases h with h | h | h
        · exact Or.inl h
        · refine Or.inr ?_
          rw [lt_i] at h ⊢
          rw [show (3 : Int32).toInt = 3 from rfl] at h
          rw [show (1 : Int32).toInt = 1 from rfl]
          omega
        · exact Or.inr h.2))), if_pos rfl]
    · rw [if_neg w, bd_ok ((in13 b).trans (in_out (by
        rcases h with h | h | h
        · exact Or.inl h
        · exact Or.inr h
        · exact absurd h.1 w))), if_pos rfl]
theorem lsM_c {a b c : Int32} (h : c < 0 ∨ 1 < c) : f_X9_isListed a b c = some 0 := by
  have c0 : f_X9_in c.toInt64 0 0 = some 0 := (in00 c).trans (in_out (b := 0) (c := 0) (by
    rcases h with h | h
    · exact Or.inl h
    · refine Or.inr ?_
      rw [lt_i] at h ⊢
      rw [show (1 : Int32).toInt = 1 from rfl] at h
      rw [show (0 : Int32).toInt = 0 from rfl]
      omega))
  have c1 : f_X9_in c.toInt64 0 1 = some 0 := (in01 c).trans (in_out (b := 0) (c := 1) h)
  unfold f_X9_isListed
  rcases in_c a 2 4 with e | e
  · rw [bd_ok ((in24 a).trans e), if_pos rfl]
  · rw [bd_ok ((in24 a).trans e), if_neg (by decide)]
    rw [bd_ok c0, if_pos (show (0 : Int32) = 0 from rfl), bd_ok c1, if_pos (show (0 : Int32) = 0 from rfl)]
    rcases in_c b 1 1 with e1 | e1 <;> rcases in_c b 1 3 with e3 | e3
    all_goals
      rw [bd_ok ((in11 b).trans e1), bd_ok ((in13 b).trans e3)]
      simp
theorem lsB (a b c : Int32) (h : (a < 2 ∨ 4 < a) ∨ (b < 1 ∨ 3 < b ∨ (a = 4 ∧ 1 < b)) ∨ (c < 0 ∨ 1 < c)) : f_X8_isListed a b c = some 0 := by
  have t1 : ∀ x : Int32, 3 < x → 1 < x := fun x h => by
    rw [lt_i] at h ⊢
    rw [show (3 : Int32).toInt = 3 from rfl] at h
    rw [show (1 : Int32).toInt = 1 from rfl]
    omega
  have t0 : ∀ x : Int32, 1 < x → 0 < x := fun x h => by
    rw [lt_i] at h ⊢
    rw [show (1 : Int32).toInt = 1 from rfl] at h
    rw [show (0 : Int32).toInt = 0 from rfl]
    omega
  unfold f_X8_isListed
  by_cases w4 : a = 4
  · rw [if_pos w4]
    by_cases w2 : a = 2
    · rw [w4] at w2; exact absurd w2 (by decide)
    · rw [if_neg w2]
      by_cases q1 : a < 2
      · rw [if_pos q1]
      · by_cases q2 : 4 < a
        · rw [if_neg q1, if_pos q2]
        · by_cases q3 : b < 1
          · rw [if_neg q1, if_neg q2, if_pos q3]
          · by_cases q4 : 1 < b
            · rw [if_neg q1, if_neg q2, if_neg q3, if_pos q4]
            · by_cases q5 : c < 0
              · rw [if_neg q1, if_neg q2, if_neg q3, if_neg q4, if_pos q5]
              · rw [if_neg q1, if_neg q2, if_neg q3, if_neg q4, if_neg q5, if_pos]
                rcases h with (h | h) | (h | h | h) | (h | h)
                · exact absurd h q1
                · exact absurd h q2
                · exact absurd h q3
                · exact absurd (t1 _ h) q4
                · exact absurd h.2 q4
                · exact absurd h q5
                · exact h
  · rw [if_neg w4]
    by_cases w2 : a = 2
    · rw [if_pos w2]
      by_cases q1 : a < 2
      · rw [if_pos q1]
      · by_cases q2 : 4 < a
        · rw [if_neg q1, if_pos q2]
        · by_cases q3 : b < 1
          · rw [if_neg q1, if_neg q2, if_pos q3]
          · by_cases q4 : 3 < b
            · rw [if_neg q1, if_neg q2, if_neg q3, if_pos q4]
            · by_cases q5 : c < 0
              · rw [if_neg q1, if_neg q2, if_neg q3, if_neg q4, if_pos q5]
              · rw [if_neg q1, if_neg q2, if_neg q3, if_neg q4, if_neg q5, if_pos]
                rcases h with (h | h) | (h | h | h) | (h | h)
                · exact absurd h q1
                · exact absurd h q2
                · exact absurd h q3
                · exact absurd h q4
                · exact absurd h.1 w4
                · exact absurd h q5
                · exact t0 _ h
    · rw [if_neg w2]
      by_cases q1 : a < 2
      · rw [if_pos q1]
      · by_cases q2 : 4 < a
        · rw [if_neg q1, if_pos q2]
        · by_cases q3 : b < 1
          · rw [if_neg q1, if_neg q2, if_pos q3]
          · by_cases q4 : 3 < b
            · rw [if_neg q1, if_neg q2, if_neg q3, if_pos q4]
            · by_cases q5 : c < 0
              · rw [if_neg q1, if_neg q2, if_neg q3, if_neg q4, if_pos q5]
              · rw [if_neg q1, if_neg q2, if_neg q3, if_neg q4, if_neg q5, if_pos]
                rcases h with (h | h) | (h | h | h) | (h | h)
                · exact absurd h q1
                · exact absurd h q2
                · exact absurd h q3
                · exact absurd h q4
                · exact absurd h.1 w4
                · exact absurd h q5
                · exact h
theorem pick2 (x : Int32) (b M : Nat) (hM : M < 1000) (hb : b < 1000) : (∃ j : Nat, j ≤ M ∧ x = nI j) ∨ (x < nI b ∨ nI M < x) := by
  rcases pick x (M + 1) (by omega) with ⟨j, hj, e⟩ | q | q
  · exact Or.inl ⟨j, by omega, e⟩
  · refine Or.inr (Or.inl ?_)
    rw [lt_i] at q ⊢
    rw [nI_toInt (by omega)]
    rw [show (0 : Int32).toInt = 0 from rfl] at q
    omega
  · refine Or.inr (Or.inr ?_)
    rw [le_i, nI_toInt (by omega)] at q
    rw [lt_i, nI_toInt (by omega)]
    omega
theorem e_listed (a b c : Int32) : (∃ r m p, cfgm r m p ∧ a = nI r ∧ b = nI m ∧ c = nI p ∧ f_X8_isListed a b c = some 1 ∧ f_X9_isListed a b c = some 1) ∨ (f_X8_isListed a b c = some 0 ∧ f_X9_isListed a b c = some 0) := by
  rcases pick2 a 2 4 (by decide) (by decide) with ⟨r, hr, rfl⟩ | q
  · rcases pick2 b 1 3 (by decide) (by decide) with ⟨m, hm, rfl⟩ | q
    · rcases pick2 c 0 1 (by decide) (by decide) with ⟨p, hp, rfl⟩ | q
      · have e1 := lsD r (by omega) m (by omega) p (by omega)
        have e2 := lsD2 r (by omega) m (by omega) p (by omega)
        rw [e1]
        by_cases w : ((r = 2 ∧ p = 0) ∨ (r = 3 ∧ p = 0) ∨ (r = 3 ∧ p = 1) ∨ (r = 4 ∧ p = 0) ∨ (r = 4 ∧ p = 1)) ∧ 1 ≤ m ∧ m ≤ 3 ∧ (r = 4 → m = 1)
        · rw [if_pos w] at e2
          exact Or.inl ⟨r, m, p, w, rfl, rfl, rfl, e2, e2⟩
        · rw [if_neg w] at e2
          exact Or.inr ⟨e2, e2⟩
      · exact Or.inr ⟨lsB _ _ _ (Or.inr (Or.inr q)), lsM_c q⟩
    · have q' : b < 1 ∨ 3 < b ∨ (nI r = 4 ∧ 1 < b) := q.imp id Or.inl
      exact Or.inr ⟨lsB _ _ _ (Or.inr (Or.inl q')), lsM_b q'⟩
  · exact Or.inr ⟨lsB _ _ _ (Or.inl q), lsM_a q⟩
theorem Rel.lst {IB IB' IM : SI} (h : Rel LstOK IB IM) (hf : Fr [7, 15, 19, 21, 23, 24, 54, 22, 50, 51, 52, 53] IB IB') (hL : LstOK IB') : Rel LstOK IB' IM := by
  obtain ⟨h1, ⟨n, w1, w2, w3, w4⟩, h3, _⟩ := h
  refine ⟨fun t ht => ?_, ⟨n, w1, by rw [hf 38 (by decide)]; exact w2, w3, fun j hj => ?_⟩, by rw [hf 26 (by decide)]; exact h3, hL⟩
  · obtain ⟨r, N, a, b, c⟩ := h1 t ht
    exact ⟨r, N, a, b.fr hf (by simp; omega) (by simp; omega), c⟩
  · rw [hf 33 (by decide)]
    exact w4 j hj
theorem op_list {IB IM : SI} (h : Rel LstOK IB IM) (a b c : Int32) : ∃ v IB' IM', f_X8_list a b c IB = some (v, IB') ∧ f_X9_list a b c IM = some (v, IM') ∧ Rel LstOK IB' IM' := by
  rcases e_listed a b c with ⟨r, m, p, hc, rfl, rfl, rfl, e1, e2⟩ | ⟨e1, e2⟩
  · have t := tot_le hc
    obtain ⟨IB', e3, f3, k⟩ := B_howMany hc h.2.2.2
    obtain ⟨x, IM', e4, f4, q⟩ := M_go (K := 5000) (v4 := -2) hc (by decide) (fun c hc => by
      constructor
      · intro z; exact absurd (z.trans (show (-2 : Int32) + 1 = -1 from rfl)) (nIm1 (by omega))
      · intro z; omega) IM
    have ex : x = cnR r m p (tot r m p) := by
      rcases q with ⟨_, u, hu, _, q, _⟩ | q
      · have := cnR_le r m p u; omega
      · exact q.1
    refine ⟨nI (cnR r m p (tot r m p)), IB', IM', ?_, ?_, (h.lst f3 (Or.inr ⟨r, m, p, hc, k⟩)).frM f4⟩
    · unfold f_X8_list
      rw [bd_ok e1, if_neg (by decide), bd_ok e3]
    · unfold f_X9_list
      rw [bd_ok e2, if_neg (by decide), bd_ok e4, ex]
  · refine ⟨-2, IB, IM, ?_, ?_, h⟩
    · unfold f_X8_list
      rw [bd_ok e1, if_pos rfl]
    · unfold f_X9_list
      rw [bd_ok e2, if_pos rfl]
theorem op_take {IB IM : SI} (h : Rel LstOK IB IM) (a b c d e : Int32) : ∃ v IB' IM', f_X8_take a b c d e IB = some (v, IB') ∧ f_X9_take a b c d e IM = some (v, IM') ∧ Rel LstOK IB' IM' := by
  rcases pick a 6 (by decide) with ⟨t, ht, rfl⟩ | ha
  · rcases e_listed b c d with ⟨r, m, p, hc, rfl, rfl, rfl, e1, e2⟩ | ⟨e1, e2⟩
    · by_cases w : 0 ≤ e
      · have tt := tot_le hc
        obtain ⟨hcc, hm1, hm3, _⟩ := id hc
        have ft := (tabT hcc).2.2.2
        obtain ⟨IB', e3, f3, k⟩ := B_howMany hc h.2.2.2
        have hR := h.lst f3 (Or.inr ⟨r, m, p, hc, k⟩)
        obtain ⟨k50, k51, k52, k53, k22, k54, k24⟩ := k
        have cT := cnR_le r m p (tot r m p)
        obtain ⟨x, hx, rfl⟩ := nI_of (x := e) (fun z => by rw [lt_i] at z; rw [le_i] at w; omega)
        by_cases y : x < cnR r m p (tot r m p)
        · obtain ⟨u, hu, hRt, hcu⟩ := cnR_ex r m p _ x y
          have hw : ∀ f, dgw m (FT r p) u f ≤ 3 := fun f => by have := dgw_le m (FT r p) u f; omega
          obtain ⟨z, IM', e4, f4, q⟩ := M_go (K := x + 1) (v4 := nI x) hc (by omega) (fun c hc => by
            rw [show nI x + 1 = nI (x + 1) from nI_1 x, nI_eq (by omega) (by omega)]) IM
          rcases q with ⟨rfl, u', hu', hRt', hcu', tm⟩ | q
          · have eu : u' = u := cnR_inj hRt' hRt (by omega)
            subst eu
            have p24 : IB' 24 x = nI (pkw (dgw m (FT r p) u') (FT r p)) := by rw [← hcu]; exact k24 u' hu hRt
            obtain ⟨S1, e5, f5, g5, _⟩ := B_unpack (I := IB') hw t (FT r p) FU IB' ft (by unfold FU; omega) Fr.rf
            obtain ⟨S2, e6, b6⟩ := B_build (I := S1) hcc (by rw [f5 50 (by decide)]; exact k50) (by rw [f5 52 (by decide)]; exact k52) (by rw [f5 22 (by decide)]; exact k22) g5
            obtain ⟨S3, e7, b7⟩ := B_become (x := t) (y := 7) (by omega) (by decide) b6.2
            obtain ⟨M3, e8, b8⟩ := M_carry (u := 6) (t := t) (by decide) (by omega) tm
            have hR2 : Rel LstOK S2 IM' := ((hR.frB LstOK_fr f5 rfl).frB LstOK_fr b6.1 rfl).frM f4
            refine ⟨1, S3, M3, ?_, ?_, hR2.tab LstOK_fr ht (cN_ok hcc hw) b7 b8⟩
            · unfold f_X8_take
              rw [bd_ok (e_isTable_in ht), if_neg (by decide), bd_ok e1, if_neg (by decide), if_pos w, bd_ok e3]
              show (if nI x < nI (cnR r m p (tot r m p)) then gd (nI t < 0 ∨ 6 ≤ (nI t).toNatClampNeg) (bd (f_X2_write (nI t).toNatClampNeg (nI x) IB') (fun I_9 => some ((1 : Int32), I_9))) else _) = _
              rw [if_pos (nI_lt y (by omega)), gd6 ht, cl (by omega)]
              have ew : f_X2_write t (nI x) IB' = some S3 := by
                unfold f_X2_write
                rw [if_neg (nI_pos (by omega)), k54, if_pos (nI_lt y (by omega)), gd_in (show x < 1024 by omega) (by decide), cl (show x < 2 ^ 31 by omega), p24, k53, show nI (FT r p) - 1 = iI ((FT r p : Int) - 1) by rw [nI_iI, show (1 : Int32) = iI 1 from rfl, iI_sub], bd_ok e5, bd_ok e6, bd_ok e7]
              rw [bd_ok ew]
            · unfold f_X9_take
              rw [bd_ok (e_noTable_in ht), if_pos rfl, bd_ok e2, if_neg (by decide), if_pos w, if_neg (show ¬ (100000 : Int32) < nI x from nI_nlt (a := 100000) (by omega) (by decide)), bd_ok e4]
              show (if nI (x + 1) = nI x + 1 then bd (f_X9_carry 6 (nI t) IM') (fun I_9 => some ((1 : Int32), I_9)) else _) = _
              rw [if_pos (nI_1 x).symm, bd_ok (show f_X9_carry 6 (nI t) IM' = _ from e8)]
          · omega
        · have eB : f_X8_take (nI t) (nI r) (nI m) (nI p) (nI x) IB = some (-3, IB') := by
            unfold f_X8_take
            rw [bd_ok (e_isTable_in ht), if_neg (by decide), bd_ok e1, if_neg (by decide), if_pos w, bd_ok e3]
            exact if_neg (nI_nlt (by omega) (by omega))
          by_cases z : 100000 < x
          · refine ⟨-3, IB', IM, eB, ?_, hR⟩
            unfold f_X9_take
            rw [bd_ok (e_noTable_in ht), if_pos rfl, bd_ok e2, if_neg (by decide), if_pos w, if_pos (show (100000 : Int32) < nI x from nI_lt (a := 100000) z (by omega))]
          · obtain ⟨q0, IM', e4, f4, q⟩ := M_go (K := x + 1) (v4 := nI x) hc (by omega) (fun c hc => by
              rw [show nI x + 1 = nI (x + 1) from nI_1 x, nI_eq (by omega) (by omega)]) IM
            have hq : q0 < x + 1 := by
              rcases q with ⟨_, u', hu', hRt', hcu', _⟩ | q
              · have := cnR_lt hRt' hu'; omega
              · exact q.2
            refine ⟨-3, IB', IM', eB, ?_, hR.frM f4⟩
            unfold f_X9_take
            rw [bd_ok (e_noTable_in ht), if_pos rfl, bd_ok e2, if_neg (by decide), if_pos w, if_neg (show ¬ (100000 : Int32) < nI x from nI_nlt (a := 100000) (by omega) (by decide)), bd_ok e4]
            refine if_neg (fun s => ?_)
            have s : nI q0 = nI x + 1 := s
            rw [show nI x + 1 = nI (x + 1) from nI_1 x, nI_eq (by omega) (by omega)] at s
            omega
      · refine ⟨-2, IB, IM, ?_, ?_, h⟩
        · unfold f_X8_take
          rw [bd_ok (e_isTable_in ht), if_neg (by decide), bd_ok e1, if_neg (by decide), if_neg w]
        · unfold f_X9_take
          rw [bd_ok (e_noTable_in ht), if_pos rfl, bd_ok e2, if_neg (by decide), if_neg w]
    · refine ⟨-2, IB, IM, ?_, ?_, h⟩
      · unfold f_X8_take
        rw [bd_ok (e_isTable_in ht), if_neg (by decide), bd_ok e1, if_pos rfl]
      · unfold f_X9_take
        rw [bd_ok (e_noTable_in ht), if_pos rfl, bd_ok e2, if_pos rfl]
  · refine ⟨-2, IB, IM, ?_, ?_, h⟩
    · unfold f_X8_take
      rw [bd_ok (e_isTable_out ha), if_pos rfl]
    · unfold f_X9_take
      rw [bd_ok (e_noTable_out ha), if_neg (by decide)]
