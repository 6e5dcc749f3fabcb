/-! fault, partner, copy, group, near -/
section O2
variable {Lst : SI → Prop}
theorem gd6c {α : Type} {t : Nat} {x : Option α} (h : t < 6) : gd (nI t < 0 ∨ 6 ≤ t) x = x := gd_ok (by have := nI_in h (N := 6) (by decide); rw [cl (by omega)] at this; exact this)
/-- a table is held to the laws, on both sides -/
theorem op_right (hL : LFr Lst) {IB IM : SI} (h : Rel Lst IB IM) {t : Nat} (ht : t < 6) : ∃ (r : Nat) (N : Nat → Nat) (IB' IM' : SI), OKT r N ∧ TB IB t r N ∧ TM IM t r N ∧ TB IB' t r N ∧ TM IM' t r N ∧ f_X1_allHold t IB = some ((if Right r N then 1 else 0), IB') ∧ f_X9_isRight (nI t) IM = some ((if Right r N then 1 else 0), IM') ∧ Rel Lst IB' IM' ∧ FB IB' (flt r N) ∧ FM IM' (flt r N) ∧ (Right r N → ∀ i, i < r → IB' 17 i = nI (ptn N i r) ∧ IM' 3 i = nI (ptn N i r)) ∧ Fr [16, 17, 18] IB IB' ∧ Fr [2, 3] IM IM' := by
  obtain ⟨r, N, ho, hB, hM⟩ := h.1 t ht
  obtain ⟨IB', e1, f1, g1, p1⟩ := B_right hB (by omega) ho
  obtain ⟨IM', e2, f2, g2, p2⟩ := M_right hM (by omega) ho
  exact ⟨r, N, IB', IM', ho, hB, hM, hB.fr f1 (by simp; omega) (by simp; omega), hM.fr f2 (by decide) (by decide), e1, e2, (h.frB hL f1 rfl).frM (FrM.of f2 (by decide) (by decide) (by decide) (by decide)), g1, g2, fun q i hi => ⟨p1 q i hi, p2 q i hi⟩, f1, f2⟩
theorem e_isRightB {t : Nat} (ht : t < 6) {I I' : SI} {c : Prop} [Decidable c] (e : f_X1_allHold t I = some ((if c then 1 else 0), I')) : f_X8_isRight (nI t) I = some ((if c then 1 else 0), I') := by
  unfold f_X8_isRight
  rw [gd6 ht, cl (by omega), bd_ok e]
  by_cases h : c
  · rw [if_pos h]; rfl
  · rw [if_neg h]; rfl
theorem op_fault (hL : LFr Lst) {IB IM : SI} (h : Rel Lst IB IM) (a b : Int32) : ∃ v IB' IM', f_X8_fault a b IB = some (v, IB') ∧ f_X9_fault a b IM = some (v, IM') ∧ Rel Lst IB' IM' := by
  rcases pick a 6 (by decide) with ⟨t, ht, rfl⟩ | ha
  · rcases e_in9 b 0 4 (by decide) (by decide) with ⟨w, _, hw, rfl, e⟩ | ⟨hb, e⟩
    · obtain ⟨r, N, IB', IM', ho, hB, hM, hB', hM', e1, e2, hR, g1, g2, hp, f1, f2⟩ := op_right hL h ht
      refine ⟨IM' 2 w, IB', IM', ?_, ?_, hR⟩
      · unfold f_X8_fault
        rw [bd_ok (e_isTable_in ht), if_neg (by decide), if_neg (show ¬ nI w < 0 from nI_pos (by omega)), if_pos (show nI w ≤ 4 from nI_le (b := 4) hw (by decide)), gd6 ht, cl (by omega), bd_ok e1]
        rcases (show w = 0 ∨ w = 1 ∨ w = 2 ∨ w = 3 ∨ w = 4 by omega) with rfl | rfl | rfl | rfl | rfl
        · show (if nI 0 = 0 then some (IB' 18 0, IB') else _) = _
          rw [if_pos (show nI 0 = 0 from rfl), g1.1, g2.1]
        · show some (IB' 16 0, IB') = _
          rw [g1.2.1, g2.2.1]
        · show some (IB' 16 1, IB') = _
          rw [g1.2.2.1, g2.2.2.1]
        · show some (IB' 16 2, IB') = _
          rw [g1.2.2.2.1, g2.2.2.2.1]
        · show some (IB' 16 3, IB') = _
          rw [g1.2.2.2.2, g2.2.2.2.2]
      · unfold f_X9_fault
        rw [bd_ok (e_noTable_in ht), if_pos rfl, bd_ok (show f_X9_in (nI w).toInt64 0 4 = some 1 from e), if_neg (by decide), bd_ok e2]
        show gd (nI w < 0 ∨ 5 ≤ (nI w).toNatClampNeg) (some (IM' 2 (nI w).toNatClampNeg, IM')) = _
        rw [gd_in (by omega) (by decide), cl (by omega)]
    · refine ⟨-2, IB, IM, ?_, ?_, h⟩
      · unfold f_X8_fault
        rw [bd_ok (e_isTable_in ht), if_neg (by decide)]
        by_cases q : b < 0
        · rw [if_pos q]
        · rw [if_neg q, if_neg (show ¬ b ≤ 4 from hb.resolve_left q)]
      · unfold f_X9_fault
        rw [bd_ok (e_noTable_in ht), if_pos rfl, bd_ok (show f_X9_in b.toInt64 0 4 = some 0 from e), if_pos rfl]
  · refine ⟨-2, IB, IM, ?_, ?_, h⟩
    · unfold f_X8_fault
      rw [bd_ok (e_isTable_out ha), if_pos rfl]
    · unfold f_X9_fault
      rw [bd_ok (e_noTable_out ha), if_neg (by decide)]
theorem op_partner (hL : LFr Lst) {IB IM : SI} (h : Rel Lst IB IM) (a b : Int32) : ∃ v IB' IM', f_X8_partner a b IB = some (v, IB') ∧ f_X9_partner a b IM = some (v, IM') ∧ Rel Lst IB' IM' := by
  rcases pick a 6 (by decide) with ⟨t, ht, rfl⟩ | ha
  · obtain ⟨r, N, IB', IM', ho, hB, hM, hB', hM', e1, e2, hR, g1, g2, hp, f1, f2⟩ := op_right hL h ht
    obtain ⟨h1, h5, h9⟩ := id ho
    rcases pick b r (by omega) with ⟨i, hi, rfl⟩ | hb
    · by_cases hr : Right r N
      · have er := e_isRightB ht e1
        rw [if_pos hr] at er e2
        refine ⟨nI (ptn N i r), IB', IM', ?_, ?_, hR⟩
        · unfold f_X8_partner
          rw [bd_ok (e_isKindB_in ht hB.1 hi h5), if_neg (by decide), bd_ok er]
          show (if (1 : Int32) = 0 then _ else gd (nI i < 0 ∨ 5 ≤ (nI i).toNatClampNeg) (some (IB' 17 (nI i).toNatClampNeg, IB'))) = _
          rw [if_neg (by decide), gd_in (by omega) (by decide), cl (by omega), (hp hr i hi).1]
        · unfold f_X9_partner
          rw [bd_ok (e_noTable_in ht), if_pos rfl, bd_ok (e_isKind_in (by omega) hM.1 hi h5), if_neg (by decide), bd_ok e2]
          show (if (1 : Int32) = 0 then _ else gd (nI i < 0 ∨ 5 ≤ (nI i).toNatClampNeg) (some (IM' 3 (nI i).toNatClampNeg, IM'))) = _
          rw [if_neg (by decide), gd_in (by omega) (by decide), cl (by omega), (hp hr i hi).2]
      · have er := e_isRightB ht e1
        rw [if_neg hr] at er e2
        refine ⟨-3, IB', IM', ?_, ?_, hR⟩
        · unfold f_X8_partner
          rw [bd_ok (e_isKindB_in ht hB.1 hi h5), if_neg (by decide), bd_ok er]
          exact if_pos rfl
        · unfold f_X9_partner
          rw [bd_ok (e_noTable_in ht), if_pos rfl, bd_ok (e_isKind_in (by omega) hM.1 hi h5), if_neg (by decide), bd_ok e2]
          exact if_pos rfl
    · refine ⟨-2, IB, IM, ?_, ?_, h⟩
      · unfold f_X8_partner
        rw [bd_ok (e_isKindB_out ht hB.1 hb), if_pos rfl]
      · unfold f_X9_partner
        rw [bd_ok (e_noTable_in ht), if_pos rfl, bd_ok (e_isKind_out (by omega) hM.1 hb h1 h5), if_pos rfl]
  · refine ⟨-2, IB, IM, ?_, ?_, h⟩
    · unfold f_X8_partner
      rw [bd_ok (e_isKindB_no ha), if_pos rfl]
    · unfold f_X9_partner
      rw [bd_ok (e_noTable_out ha), if_neg (by decide)]
theorem op_copy (hL : LFr Lst) {IB IM : SI} (h : Rel Lst IB IM) (a b : Int32) : ∃ v IB' IM', f_X8_copy a b IB = some (v, IB') ∧ f_X9_copy a b IM = some (v, IM') ∧ Rel Lst IB' IM' := by
  rcases pick a 6 (by decide) with ⟨u, hu, rfl⟩ | ha
  · rcases pick b 6 (by decide) with ⟨t, ht, rfl⟩ | hb
    · obtain ⟨r, N, ho, hB, hM⟩ := h.1 u hu
      obtain ⟨IB', e1, q1⟩ := B_become (x := t) (y := u) (by omega) (by omega) hB
      obtain ⟨IM', e2, q2⟩ := M_carry (u := u) (t := t) (by omega) (by omega) hM
      refine ⟨nI r, IB', IM', ?_, ?_, h.tab hL ht ho q1 q2⟩
      · unfold f_X8_copy
        rw [bd_ok (e_isTable_in hu), if_neg (by decide), bd_ok (e_isTable_in ht), if_neg (by decide), gd6 ht, gd6 hu, cl (by omega), cl (by omega), bd_ok e1, gd6c ht, q1.2.1]
      · unfold f_X9_copy
        rw [bd_ok (e_noTable_in hu), if_pos rfl, bd_ok (e_noTable_in ht), if_pos rfl, bd_ok e2, gd_in (by omega) (by decide), cl (by omega), q2.2.1]
    · refine ⟨-2, IB, IM, ?_, ?_, h⟩
      · unfold f_X8_copy
        rw [bd_ok (e_isTable_in hu), if_neg (by decide), bd_ok (e_isTable_out hb), if_pos rfl]
      · unfold f_X9_copy
        rw [bd_ok (e_noTable_in hu), if_pos rfl, bd_ok (e_noTable_out hb), if_neg (by decide)]
  · refine ⟨-2, IB, IM, ?_, ?_, h⟩
    · unfold f_X8_copy
      rw [bd_ok (e_isTable_out ha), if_pos rfl]
    · unfold f_X9_copy
      rw [bd_ok (e_noTable_out ha), if_neg (by decide)]
theorem op_group (hL : LFr Lst) {IB IM : SI} (h : Rel Lst IB IM) (a b : Int32) : ∃ v IB' IM', f_X8_group a b IB = some (v, IB') ∧ f_X9_group a b IM = some (v, IM') ∧ Rel Lst IB' IM' := by
  rcases pick a 6 (by decide) with ⟨t, ht, rfl⟩ | ha
  · rcases e_in9 b 1 5 (by decide) (by decide) with ⟨r, h1, h5, rfl, e⟩ | ⟨hb, e⟩
    · obtain ⟨IB1, e1, h2⟩ := B_reset (x := t) (by omega) h5 IB
      obtain ⟨IM1, e3, h4⟩ := M_begin (t := t) (by omega) h5 IM
      obtain ⟨IB', e5, h6⟩ := B_grp (n := r) (by omega) h5 h2
      obtain ⟨IM', e7, h8⟩ := M_grp (n := r) (by omega) h5 h4
      refine ⟨1, IB', IM', ?_, ?_, h.tab hL ht ⟨h1, h5, grpI_le (unitN_le r) r⟩ h6 h8⟩
      · unfold f_X8_group
        rw [bd_ok (e_isTable_in ht), if_neg (by decide), if_neg (show ¬ nI r < 1 from nI_nlt h1 (by omega)), if_pos (show nI r ≤ 5 from nI_le h5 (by decide)), gd6 ht, cl (by omega), bd_ok e1, gd6c ht, bd_ok e5]
      · unfold f_X9_group
        rw [bd_ok (e_noTable_in ht), if_pos rfl, bd_ok (show f_X9_in (nI r).toInt64 1 5 = some 1 from e), if_neg (by decide), bd_ok e3, bd_ok e7]
    · refine ⟨-2, IB, IM, ?_, ?_, h⟩
      · unfold f_X8_group
        rw [bd_ok (e_isTable_in ht), if_neg (by decide)]
        by_cases q : b < 1
        · rw [if_pos q]
        · rw [if_neg q, if_neg (show ¬ b ≤ 5 from hb.resolve_left q)]
      · unfold f_X9_group
        rw [bd_ok (e_noTable_in ht), if_pos rfl, bd_ok (show f_X9_in b.toInt64 1 5 = some 0 from e), if_pos rfl]
  · refine ⟨-2, IB, IM, ?_, ?_, h⟩
    · unfold f_X8_group
      rw [bd_ok (e_isTable_out ha), if_pos rfl]
    · unfold f_X9_group
      rw [bd_ok (e_noTable_out ha), if_neg (by decide)]
theorem op_near (hL : LFr Lst) {IB IM : SI} (h : Rel Lst IB IM) (a b d : Int32) : ∃ v IB' IM', f_X8_near a b d IB = some (v, IB') ∧ f_X9_near a b d IM = some (v, IM') ∧ Rel Lst IB' IM' := by
  rcases pick a 6 (by decide) with ⟨t, ht, rfl⟩ | ha
  · rcases e_in9 b 1 4 (by decide) (by decide) with ⟨n, h1, h4, rfl, e⟩ | ⟨hb, e⟩
    · rcases e_in9 d 0 9 (by decide) (by decide) with ⟨w, _, hw, rfl, e9⟩ | ⟨hd, e9⟩
      · obtain ⟨IB1, e1, q1⟩ := B_reset (x := t) (r := n + 1) (by omega) (by omega) IB
        obtain ⟨IM1, e2, q2⟩ := M_begin (t := t) (r := n + 1) (by omega) (by omega) IM
        obtain ⟨IB2, e3, q3⟩ := B_grp (n := n) (by omega) (by omega) q1
        obtain ⟨IM2, e4, q4⟩ := M_grp (n := n) (by omega) (by omega) q2
        obtain ⟨IB3, e5, q5⟩ := B_near_lp (n := n) ht (by omega) (nI w) q3
        obtain ⟨IM3, e6, q6⟩ := M_near_lp (n := n) (show t < 7 by omega) (by omega) (nI w) q4
        obtain ⟨IB4, e7, q7⟩ := B_step q5 (i := n) (j := n) (k := n) w (by omega)
        obtain ⟨IM4, e8, q8⟩ := M_step (show t < 7 by omega) q6 (i := n) (j := n) (k := n) w (by omega)
        refine ⟨1, IB4, IM4, ?_, ?_, h.tab hL ht ⟨by omega, by omega, setN_le (nearI_le (grpI_le (unitN_le _) n) n) hw⟩ q7 q8⟩
        · unfold f_X8_near
          rw [bd_ok (e_isTable_in ht), if_neg (by decide), if_neg (show ¬ nI n < 1 from nI_nlt h1 (by omega)), if_neg (show ¬ 5 ≤ nI n from le_nI (a := 5) (by decide) (by omega) (by omega)), if_neg (show ¬ nI w < 0 from nI_pos (by omega)), if_pos (show nI w ≤ 9 from nI_le hw (by decide)), gd6 ht, cl (by omega), show nI n + 1 = nI (n + 1) from nI_1 n, bd_ok e1, gd6c ht, bd_ok e3, bd_ok e5, gd6c ht, bd_ok e7]
        · unfold f_X9_near
          rw [bd_ok (e_noTable_in ht), if_pos rfl, bd_ok (show f_X9_in (nI n).toInt64 1 4 = some 1 from e), if_neg (by decide), bd_ok (show f_X9_in (nI w).toInt64 0 9 = some 1 from e9), if_neg (by decide), show nI n + 1 = nI (n + 1) from nI_1 n, bd_ok e2, bd_ok e4, bd_ok e6, bd_ok e8]
      · refine ⟨-2, IB, IM, ?_, ?_, h⟩
        · unfold f_X8_near
          rw [bd_ok (e_isTable_in ht), if_neg (by decide), if_neg (show ¬ nI n < 1 from nI_nlt h1 (by omega)), if_neg (show ¬ 5 ≤ nI n from le_nI (a := 5) (by decide) (by omega) (by omega))]
          by_cases q : d < 0
          · rw [if_pos q]
          · rw [if_neg q, if_neg (show ¬ d ≤ 9 from hd.resolve_left q)]
        · unfold f_X9_near
          rw [bd_ok (e_noTable_in ht), if_pos rfl, bd_ok (show f_X9_in (nI n).toInt64 1 4 = some 1 from e), if_neg (by decide), bd_ok (show f_X9_in d.toInt64 0 9 = some 0 from e9), if_pos rfl]
    · refine ⟨-2, IB, IM, ?_, ?_, h⟩
      · unfold f_X8_near
        rw [bd_ok (e_isTable_in ht), if_neg (by decide)]
        by_cases q : b < 1
        · rw [if_pos q]
        · have hb := hb.resolve_left q
          rw [if_neg q, if_pos ?_]
          rw [Int32.le_iff_toInt_le] at hb ⊢
          have a1 : (5 : Int32).toInt = 5 := rfl
          have a2 : (nI 4).toInt = 4 := rfl
          omega
      · unfold f_X9_near
        rw [bd_ok (e_noTable_in ht), if_pos rfl, bd_ok (show f_X9_in b.toInt64 1 4 = some 0 from e), if_pos rfl]
  · refine ⟨-2, IB, IM, ?_, ?_, h⟩
    · unfold f_X8_near
      rw [bd_ok (e_isTable_out ha), if_pos rfl]
    · unfold f_X9_near
      rw [bd_ok (e_noTable_out ha), if_neg (by decide)]
end O2
